/-! ===== the things' text ===== -/
def tOk (k : Nat) (x : Int) : Prop := (k = 0 ∧ 48 ≤ x ∧ x ≤ 51) ∨ (k = 1 ∧ 48 ≤ x ∧ x ≤ 57) ∨ (k = 2 ∧ 49 ≤ x ∧ x ≤ 57) ∨ (k = 3 ∧ (x = 112 ∨ x = 98 ∨ x = 116)) ∨ (4 ≤ k ∧ x = 59)
def tKd (x : Int) : Int := if x = 112 then 0 else if x = 98 then 1 else 2
def tSt (b : Nat → Int) (t : Nat) : Int := 10 * (b (5 * t) - 48) + (b (5 * t + 1) - 48)
/-- a things' text b of n signs has the fault f (-1: none) and tells nt things, which stand at st, so thick, of such kinds -/
def ThingsOf (b : Nat → Int) (n : Nat) (f nt : Int) (st tk kd' : Nat → Int) : Prop :=
  (f = -1 ∧ (n = 0 ∨ n % 5 = 4) ∧ (∀ i, i < n → tOk (i % 5) (b i)) ∧ nt = (((n + 1) / 5 : Nat) : Int) ∧ ∀ t, t < (n + 1) / 5 → st t = tSt b t ∧ tk t = b (5 * t + 2) - 48 ∧ kd' t = tKd (b (5 * t + 3))) ∨
  (f = (n : Int) ∧ ¬ (n = 0 ∨ n % 5 = 4) ∧ (∀ i, i < n → tOk (i % 5) (b i)) ∧ nt = 0) ∨
  (∃ i, i < n ∧ f = (i : Int) ∧ ¬ tOk (i % 5) (b i) ∧ (∀ j, j < i → tOk (j % 5) (b j)) ∧ nt = 0)
theorem ThingsOf.one {b : Nat → Int} {n : Nat} {f g nt mt : Int} {st tk kd' st2 tk2 kd2 : Nat → Int} (h : ThingsOf b n f nt st tk kd') (k : ThingsOf b n g mt st2 tk2 kd2) : f = g ∧ nt = mt ∧ ∀ t : Nat, (t : Int) < nt → st t = st2 t ∧ tk t = tk2 t ∧ kd' t = kd2 t := by
  rcases h with ⟨h1, h2, h3, h4, h5⟩ | ⟨h1, h2, h3, h4⟩ | ⟨i, h1, h2, h3, h4, h5⟩
  · rcases k with ⟨k1, k2, k3, k4, k5⟩ | ⟨k1, k2, k3, k4⟩ | ⟨j, k1, k2, k3, k4, k5⟩
    · refine ⟨by rw [h1, k1], by rw [h4, k4], fun t ht => ?_⟩
      have q1 := h5 t (by omega)
      have q2 := k5 t (by omega)
      exact ⟨q1.1.trans q2.1.symm, q1.2.1.trans q2.2.1.symm, q1.2.2.trans q2.2.2.symm⟩
    · exact absurd h2 k2
    · exact absurd (h3 j k1) k3
  · rcases k with ⟨k1, k2, k3, k4, k5⟩ | ⟨k1, k2, k3, k4⟩ | ⟨j, k1, k2, k3, k4, k5⟩
    · exact absurd k2 h2
    · exact ⟨by rw [h1, k1], by rw [h4, k4], fun t ht => by omega⟩
    · exact absurd (h3 j k1) k3
  · rcases k with ⟨k1, k2, k3, k4, k5⟩ | ⟨k1, k2, k3, k4⟩ | ⟨j, k1, k2, k3, k4, k5⟩
    · exact absurd (k3 i h1) h3
    · exact absurd (k3 i h1) h3
    · have e : i = j := by
        rcases Nat.lt_trichotomy i j with q | q | q
        · exact absurd (k4 i q) h3
        · exact q
        · exact absurd (h4 j q) k3
      subst e
      exact ⟨by rw [h2, k2], by rw [h5, k5], fun t ht => by omega⟩
theorem ThingsOf.rng {b : Nat → Int} {n : Nat} {f nt : Int} {st tk kd' : Nat → Int} (h : ThingsOf b n f nt st tk kd') (hn : n ≤ 39) : (0 ≤ nt ∧ nt ≤ 8) ∧ ∀ t : Nat, (t : Int) < nt → (0 ≤ st t ∧ st t ≤ 39) ∧ (1 ≤ tk t ∧ tk t ≤ 9) ∧ (0 ≤ kd' t ∧ kd' t ≤ 2) := by
  rcases h with ⟨h1, h2, h3, h4, h5⟩ | ⟨h1, h2, h3, h4⟩ | ⟨i, h1, h2, h3, h4, h5⟩
  · refine ⟨by omega, fun t ht => ?_⟩
    obtain ⟨e1, e2, e3⟩ := h5 t (by omega)
    have q0 := h3 (5 * t) (by omega)
    have q1 := h3 (5 * t + 1) (by omega)
    have q2 := h3 (5 * t + 2) (by omega)
    rw [show 5 * t % 5 = 0 by omega] at q0
    rw [show (5 * t + 1) % 5 = 1 by omega] at q1
    rw [show (5 * t + 2) % 5 = 2 by omega] at q2
    unfold tOk at q0 q1 q2
    rw [e1, e2, e3]
    unfold tSt tKd
    refine ⟨by omega, by omega, ?_⟩
    split
    · omega
    · split <;> omega
  · exact ⟨by omega, fun t ht => by omega⟩
  · exact ⟨by omega, fun t ht => by omega⟩
theorem tm5 (k : Nat) : ((k : Int).tmod 5) = ((k % 5 : Nat) : Int) := rfl
theorem td5 (k : Nat) : ((k : Int).tdiv 5) = ((k / 5 : Nat) : Int) := rfl
theorem fits_v {k : Nat} {x : Int} {s : Sto} (hk : k < 5) : F_X4_fitsThing (k : Int) x s = 0 ↔ ¬ tOk k x := by
  have hk5 : k = 0 ∨ k = 1 ∨ k = 2 ∨ k = 3 ∨ k = 4 := by omega
  unfold F_X4_fitsThing tOk
  rcases hk5 with rfl | rfl | rfl | rfl | rfl
  all_goals simp
  all_goals (repeat' split) <;> first | omega | (simp; omega) | simp_all
theorem T_tfault0 {p n : Nat} {s : Sto} {K1 : Int → Prop} {K2 : Prop} (hn : s p 1 = n) (h39 : n ≤ 39) (hal : n ≤ al (p + 1)) (h2 : (∀ i, i < n → tOk (i % 5) (s (p + 1) i)) → K2) (h1 : ∀ i : Nat, i < n → ¬ tOk (i % 5) (s (p + 1) i) → (∀ j, j < i → tOk (j % 5) (s (p + 1) j)) → K1 i) : ∃ m, L_X4_thingsFault_2 p s K1 K2 m 0 := by
  refine lp1 (L_X4_thingsFault_2 p s K1 K2) (fun i => ∃ k : Nat, i = k ∧ k ≤ n ∧ ∀ j, j < k → tOk (j % 5) (s (p + 1) j)) (fun i => ((n : Int) - i).toNat) ?_ 0 ⟨0, rfl, by omega, fun j hj => absurd hj (Nat.not_lt_zero j)⟩
  rintro m i ⟨k, rfl, i1, i2⟩ ih
  unfold L_X4_thingsFault_2
  rw [hn, tm5, td5, w32_of (z := ((k % 5 : Nat) : Int)) (by omega) (by omega), w32_of (z := ((k / 5 : Nat) : Int)) (by omega) (by omega)]
  refine ⟨fun q => ?_, fun q => ⟨fun q2 => absurd q2 (by omega), fun q2 => ?_⟩⟩
  · have e : k = n := by omega
    subst e
    exact h2 i2
  · have eS : F_X9_sign p (k : Int) s = s (p + 1) k := by
      unfold F_X9_sign
      rw [if_neg (by omega), hn, if_neg (by omega), Int.toNat_natCast]
    have eO : O_X9_sign p (k : Int) s := by
      unfold O_X9_sign
      exact ⟨fun _ => trivial, fun _ => ⟨fun _ => trivial, fun _ => ⟨⟨by omega, by omega⟩, trivial⟩⟩⟩
    rw [eS]
    refine ⟨eO, fun w => ?_, fun w => ?_⟩
    · exact h1 k (by omega) ((fits_v (by omega)).mp w) i2
    · have hk := Classical.not_not.mp (mt (fits_v (s := s) (x := s (p + 1) k) (Nat.mod_lt k (by omega : 0 < 5))).mpr w)
      rw [w32_of (by omega) (by omega)]
      refine ih _ ⟨k + 1, by omega, by omega, fun j hj => ?_⟩ (by omega)
      by_cases ej : j = k
      · rw [ej]; exact hk
      · exact i2 j (by omega)
theorem T_tfault {p n : Nat} {s : Sto} {Q : Int → Sto → Prop} (hn : s p 1 = n) (h39 : n ≤ 39) (hal : n ≤ al (p + 1)) (h : ∀ f, ((f = -1 ∧ (n = 0 ∨ n % 5 = 4) ∧ (∀ i, i < n → tOk (i % 5) (s (p + 1) i))) ∨ (f = (n : Int) ∧ ¬ (n = 0 ∨ n % 5 = 4) ∧ (∀ i, i < n → tOk (i % 5) (s (p + 1) i))) ∨ (∃ i, i < n ∧ f = (i : Int) ∧ ¬ tOk (i % 5) (s (p + 1) i) ∧ (∀ j, j < i → tOk (j % 5) (s (p + 1) j)))) → Q f s) : P_X4_thingsFault p s Q := by
  unfold P_X4_thingsFault
  refine T_tfault0 hn h39 hal (fun i2 => ?_) (fun i h1 h2 h3 => h _ (Or.inr (Or.inr ⟨i, h1, rfl, h2, h3⟩)))
  intro x2 e2
  rw [hn, tm5, w32_of (by omega) (by omega)] at e2
  rw [hn]
  refine ⟨fun w => ?_, fun w => ?_⟩
  · refine h _ (Or.inr (Or.inl ⟨rfl, fun w2 => ?_, i2⟩))
    split at e2
    · omega
    · split at e2 <;> omega
  · refine h _ (Or.inl ⟨rfl, ?_, i2⟩)
    split at e2
    · omega
    · split at e2 <;> omega
/-- the class reads the things anew: text 1 is at 32, the told night at 6 -/
theorem T_cthings {n : Nat} {s : Sto} {Q : Int → Sto → Prop} (hn : s 32 1 = n) (h39 : n ≤ 39) (h : ∀ f t, ThingsOf (s 33) n f (t 6 6) (t 12) (t 13) (t 14) → Same (fun a b => (a = 6 ∧ b = 6) ∨ a = 12 ∨ a = 13 ∨ a = 14) s t → Q f t) : P_X4_rereadThings 6 32 s Q := by
  have a33 : al (32 + 1) = 39 := rfl
  unfold P_X4_rereadThings
  refine T_tfault hn h39 (by rw [a33]; exact h39) (fun f hf x3 e3 s5 e5 => ?_)
  have ed : ((n : Int) + 1).tdiv 5 = (((n + 1) / 5 : Nat) : Int) := rfl
  rw [hn, w32_of (z := (n : Int) + 1) (by omega) (by omega), ed, w32_of (z := (((n + 1) / 5 : Nat) : Int)) (by omega) (by omega), min_v, if_neg (by omega : ¬ (8 : Int) < (((n + 1) / 5 : Nat) : Int))] at e3
  obtain ⟨nt, hnt⟩ : ∃ nt : Nat, nt = if f = -1 then (n + 1) / 5 else 0 := ⟨_, rfl⟩
  have x3n : x3 = (nt : Int) := by
    rw [e3, hnt]
    split <;> rfl
  have hS5 : Same (fun a b => (a = 6 ∧ b = 6) ∨ a = 12 ∨ a = 13 ∨ a = 14) s s5 := by rw [e5]; exact Same.rfl'.up (Or.inl ⟨rfl, rfl⟩)
  have h66 : s5 6 6 = (nt : Int) := by rw [e5, up_at, x3n]
  have hok : ∀ i, i < 5 * nt → i < n → tOk (i % 5) (s 33 i) := by
    intro i hi hin
    rcases hf with ⟨_, _, q⟩ | ⟨q1, q2, q3⟩ | ⟨j, q1, q2, q3, q4⟩
    · exact q i hin
    · exact q3 i hin
    · rw [hnt, if_neg (by omega)] at hi; omega
  have hfin : ∀ t : Sto, t 6 6 = (nt : Int) → (∀ q, q < nt → t 12 q = tSt (s 33) q ∧ t 13 q = s 33 (5 * q + 2) - 48 ∧ t 14 q = tKd (s 33 (5 * q + 3))) → ThingsOf (s 33) n f (t 6 6) (t 12) (t 13) (t 14) := by
    intro t t1 t2
    rw [t1]
    rcases hf with ⟨q1, q2, q3⟩ | ⟨q1, q2, q3⟩ | ⟨j, q1, q2, q3, q4⟩
    · rw [if_pos q1] at hnt
      rw [hnt]
      exact Or.inl ⟨q1, q2, q3, rfl, fun w hw => t2 w (by omega)⟩
    · rw [if_neg (by omega)] at hnt
      rw [hnt]
      exact Or.inr (Or.inl ⟨q1, q2, q3, rfl⟩)
    · rw [if_neg (by omega)] at hnt
      rw [hnt]
      exact Or.inr (Or.inr ⟨j, q1, q2, q3, q4, rfl⟩)
  have hnt8 : nt ≤ 8 := by rw [hnt]; split <;> omega
  have hnt5 : 5 * nt ≤ n + 1 := by rw [hnt]; split <;> omega
  refine lp2 (L_X4_rereadThings_33 6 32 f (fun s6 => Q f s6)) (fun i t => ∃ k : Nat, i = k ∧ k ≤ nt ∧ t 6 6 = (nt : Int) ∧ (∀ q, q < k → t 12 q = tSt (s 33) q ∧ t 13 q = s 33 (5 * q + 2) - 48 ∧ t 14 q = tKd (s 33 (5 * q + 3))) ∧ Same (fun a b => (a = 6 ∧ b = 6) ∨ a = 12 ∨ a = 13 ∨ a = 14) s t) (fun i _ => ((nt : Int) - i).toNat) ?_ 0 s5 ⟨0, rfl, by omega, h66, fun j hj => absurd hj (Nat.not_lt_zero j), hS5⟩
  rintro m i t ⟨k, rfl, i1, i2, i3, i4⟩ ih
  unfold L_X4_rereadThings_33
  rw [i2]
  refine ⟨fun q => ?_, fun q x2 e2 => ?_⟩
  · have e : k = nt := by omega
    subst e
    exact h f t (hfin t i2 i3) i4
  · rw [w32_of (by omega) (by omega)] at e2
    subst e2
    rw [w32_of (z := (k : Int) * 5 + 1) (by omega) (by omega), w32_of (z := (k : Int) * 5 + 2) (by omega) (by omega), w32_of (z := (k : Int) * 5 + 3) (by omega) (by omega)]
    have hsg : ∀ (u : Sto), Same (fun a b => (a = 6 ∧ b = 6) ∨ a = 12 ∨ a = 13 ∨ a = 14) s u → ∀ d : Nat, d < 4 → F_X9_sign 32 ((k : Int) * 5 + d) u = s 33 (5 * k + d) ∧ O_X9_sign 32 ((k : Int) * 5 + d) u := by
      intro u hu d hd
      have e1 : u 32 1 = n := by rw [hu _ _ (by omega), hn]
      constructor
      · unfold F_X9_sign
        rw [if_neg (by omega), e1, if_neg (by omega), show ((k : Int) * 5 + d).toNat = 5 * k + d by omega]
        exact hu _ _ (by omega)
      · unfold O_X9_sign
        exact ⟨fun _ => trivial, fun _ => ⟨fun _ => trivial, fun _ => ⟨⟨by omega, by rw [a33]; omega⟩, trivial⟩⟩⟩
    have b0 := hok (5 * k) (by omega) (by omega)
    have b1 := hok (5 * k + 1) (by omega) (by omega)
    have b2 := hok (5 * k + 2) (by omega) (by omega)
    rw [show 5 * k % 5 = 0 by omega] at b0
    rw [show (5 * k + 1) % 5 = 1 by omega] at b1
    rw [show (5 * k + 2) % 5 = 2 by omega] at b2
    unfold tOk at b0 b1 b2
    have g0 := hsg t i4 0 (by omega)
    have g1 := hsg t i4 1 (by omega)
    simp only [Int.natCast_zero, Int.add_zero, Nat.add_zero, Int.natCast_one] at g0 g1
    refine ⟨g0.2, g1.2, ⟨by omega, by omega⟩, fun s6 e6 => ?_⟩
    rw [g0.1, g1.1, w32_of (z := s 33 (5 * k) - 48) (by omega) (by omega), w32_of (z := (s 33 (5 * k) - 48) * 10) (by omega) (by omega), w32_of (z := (s 33 (5 * k) - 48) * 10 + s 33 (5 * k + 1)) (by omega) (by omega), w32_of (by omega) (by omega)] at e6
    have hS6 : Same (fun a b => (a = 6 ∧ b = 6) ∨ a = 12 ∨ a = 13 ∨ a = 14) s s6 := by rw [e6]; exact i4.up (Or.inr (Or.inl rfl))
    have g2 := hsg s6 hS6 2 (by omega)
    refine ⟨g2.2, ⟨by omega, by omega⟩, fun s9 e9 => ?_⟩
    rw [show F_X9_sign 32 ((k : Int) * 5 + 2) s6 = s 33 (5 * k + 2) from g2.1, w32_of (by omega) (by omega)] at e9
    have hS9 : Same (fun a b => (a = 6 ∧ b = 6) ∨ a = 12 ∨ a = 13 ∨ a = 14) s s9 := by rw [e9]; exact hS6.up (Or.inr (Or.inr (Or.inl rfl)))
    have g3 := hsg s9 hS9 3 (by omega)
    refine ⟨g3.2, fun x11 e11 x12 e12 => ⟨⟨by omega, by omega⟩, fun s16 e16 => ?_⟩⟩
    rw [show F_X9_sign 32 ((k : Int) * 5 + 3) s9 = s 33 (5 * k + 3) from g3.1] at e11
    rw [e11] at e12
    rw [w32_of (by omega) (by omega)]
    rw [Int.toNat_natCast] at e6 e9 e16
    refine ih _ _ ⟨k + 1, by omega, by omega, ?_, fun q hq => ?_, ?_⟩ (by omega)
    · rw [e16, up_c (by omega), e9, up_c (by omega), e6, up_c (by omega), i2]
    · by_cases ek : q = k
      · subst ek
        refine ⟨?_, ?_, ?_⟩
        · rw [e16, up_c (by omega), e9, up_c (by omega), e6, up_at]
          unfold tSt
          omega
        · rw [e16, up_c (by omega), e9, up_at]
        · rw [e16, up_at, e12]
          rfl
      · rw [e16, up_c (by omega), up_c (by omega), up_j ek, e9, up_c (by omega), up_j ek, up_c (by omega), e6, up_j ek, up_c (by omega), up_c (by omega)]
        exact i3 q (by omega)
    · rw [e16]; exact hS9.up (Or.inr (Or.inr (Or.inr rfl)))
