/-! ===== the wind's text ===== -/
def wOk (x : Int) : Prop := x = 110 ∨ x = 101 ∨ x = 115 ∨ x = 119 ∨ x = 46
def wVal (x : Int) : Int := if x = 110 then 0 else if x = 101 then 1 else if x = 115 then 2 else if x = 119 then 3 else -1
/-- a wind's text b of n signs has the fault f (-1: none), and drives by w -/
def WindOf (b : Nat → Int) (n : Nat) (f : Int) (w : Nat → Int) : Prop :=
  (f = -1 ∧ (∀ i, i < n → wOk (b i)) ∧ (∀ i, i < n → w i = wVal (b i)) ∧ ∀ i, n ≤ i → i < 20 → w i = -1) ∨ (∃ i, i < n ∧ f = (i : Int) ∧ ¬ wOk (b i) ∧ (∀ j, j < i → wOk (b j)) ∧ ∀ j, j < 20 → w j = -1)
theorem WindOf.one {b : Nat → Int} {n : Nat} {f g : Int} {w v : Nat → Int} (h : WindOf b n f w) (k : WindOf b n g v) (hn : n ≤ 20) : f = g ∧ ∀ i, i < 20 → w i = v i := by
  rcases h with ⟨h1, h2, h3, h4⟩ | ⟨i, h1, h2, h3, h4, h5⟩
  · rcases k with ⟨k1, k2, k3, k4⟩ | ⟨j, k1, k2, k3, k4, k5⟩
    · refine ⟨by rw [h1, k1], fun i hi => ?_⟩
      by_cases c : i < n
      · rw [h3 i c, k3 i c]
      · rw [h4 i (by omega) hi, k4 i (by omega) hi]
    · exact absurd (h2 j k1) k3
  · rcases k with ⟨k1, k2, k3, k4⟩ | ⟨j, k1, k2, k3, k4, k5⟩
    · exact absurd (k2 i h1) h3
    · have e : i = j := by
        rcases Nat.lt_trichotomy i j with q | q | q
        · exact absurd (k4 i q) h3
        · exact q
        · exact absurd (h4 j q) k3
      subst e
      exact ⟨by rw [h2, k2], fun q hq => by rw [h5 q hq, k5 q hq]⟩
theorem WindOf.rng {b : Nat → Int} {n : Nat} {f : Int} {w : Nat → Int} (h : WindOf b n f w) : ∀ i, i < 20 → -1 ≤ w i ∧ w i ≤ 3 := by
  intro i hi
  rcases h with ⟨h1, h2, h3, h4⟩ | ⟨j, h1, h2, h3, h4, h5⟩
  · by_cases c : i < n
    · rw [h3 i c]
      unfold wVal
      split
      · omega
      · split
        · omega
        · split
          · omega
          · split <;> omega
    · rw [h4 i (by omega) hi]; omega
  · rw [h5 i hi]; omega
theorem windOf_v {x : Int} {s : Sto} : (wOk x → F_X4_windOf x s = wVal x ∧ ¬ wVal x = -2) ∧ (¬ wOk x → F_X4_windOf x s = -2) := by
  unfold F_X4_windOf wVal wOk
  constructor
  · rintro (h | h | h | h | h) <;> subst h <;> decide
  · intro h
    rw [if_neg (by omega), if_neg (by omega), if_neg (by omega), if_neg (by omega), if_neg (by omega)]
theorem T_cwind {n : Nat} {s : Sto} {Q : Int → Sto → Prop} (hn : s 34 1 = n) (h20 : n ≤ 20) (h : ∀ f t, WindOf (s 35) n f (t 15) → Same (fun a _ => a = 15) s t → Q f t) : P_X4_rereadWind 6 34 s Q := by
  unfold P_X4_rereadWind
  refine T_fill (fun s1 f1 f2 => ?_)
  have a15 : al (6 + 9) = 20 := rfl
  rw [a15] at f1
  refine lp2 (L_X4_rereadWind_10 6 34 _ _) (fun i t => ∃ k : Nat, i = k ∧ k ≤ n ∧ (∀ j, j < k → wOk (s 35 j)) ∧ (∀ j, j < k → t 15 j = wVal (s 35 j)) ∧ (∀ j, k ≤ j → j < 20 → t 15 j = -1) ∧ Same (fun a _ => a = 15) s t) (fun i _ => ((n : Int) - i).toNat) ?_ 0 s1 ⟨0, rfl, by omega, fun j hj => absurd hj (Nat.not_lt_zero j), fun j hj => absurd hj (Nat.not_lt_zero j), fun j _ hj => f1 j hj, f2⟩
  rintro m i t ⟨k, rfl, i1, i2, i3, i4, i5⟩ ih
  have e1 : t 34 1 = n := by rw [i5 _ _ (by omega), hn]
  unfold L_X4_rereadWind_10
  rw [e1]
  refine ⟨fun q => ?_, fun q => ⟨fun q2 => absurd q2 (by omega), fun q2 => ?_⟩⟩
  · have : k = n := by omega
    subst this
    exact h _ t (Or.inl ⟨rfl, i2, i3, i4⟩) i5
  · have a35 : al (34 + 1) = 20 := rfl
    have eS : F_X9_sign 34 (k : Int) t = s 35 k := by
      unfold F_X9_sign
      rw [if_neg (by omega), e1, if_neg (by omega), Int.toNat_natCast]
      exact i5 _ _ (by omega)
    have eO : O_X9_sign 34 (k : Int) t := by
      unfold O_X9_sign
      exact ⟨fun _ => trivial, fun _ => ⟨fun _ => trivial, fun _ => ⟨⟨by omega, by rw [a35]; omega⟩, trivial⟩⟩⟩
    rw [eS]
    refine ⟨eO, fun x4 e4 => ⟨fun q3 => ?_, fun q3 => ?_⟩⟩
    · have hk : ¬ wOk (s 35 k) := fun w => by
        have := (windOf_v (x := s 35 k) (s := t)).1 w
        rw [this.1] at e4
        exact this.2 (e4.symm.trans q3)
      refine T_fill (fun u u1 u2 => ?_)
      rw [a15] at u1
      exact h k u (Or.inr ⟨k, by omega, rfl, hk, i2, u1⟩) (i5.trans u2)
    · have hk : wOk (s 35 k) := by
        refine Classical.byContradiction (fun w => ?_)
        rw [(windOf_v (x := s 35 k) (s := t)).2 w] at e4
        exact q3 e4
      rw [((windOf_v (x := s 35 k) (s := t)).1 hk).1] at e4
      refine ⟨⟨by omega, by omega⟩, fun s7 e7 => ?_⟩
      subst e7
      rw [w32_of (by omega) (by omega), Int.toNat_natCast]
      refine ih _ _ ⟨k + 1, by omega, by omega, fun j hj => ?_, fun j hj => ?_, fun j hj1 hj2 => ?_, i5.up rfl⟩ (by omega)
      · by_cases ej : j = k
        · rw [ej]; exact hk
        · exact i2 j (by omega)
      · by_cases ej : j = k
        · rw [ej, up_at, e4]
        · rw [up_j ej]; exact i3 j (by omega)
      · rw [up_j (by omega)]; exact i4 j (by omega) hj2
theorem T_stills {s : Sto} {Q : Int → Sto → Prop} (h : ∀ t, (∀ j, j < 20 → t 78 j = -1) → Same (fun a _ => a = 78) s t → Q 0 t) : P_X12_stills s Q := by
  unfold P_X12_stills
  refine lp2 (L_X12_stills_2 (fun s1 => Q 0 s1)) (fun i t => 0 ≤ i ∧ i ≤ 20 ∧ (∀ j : Nat, (j : Int) < i → t 78 j = -1) ∧ Same (fun a _ => a = 78) s t) (fun i _ => (20 - i).toNat) ?_ 0 s ⟨by omega, by omega, fun j hj => by omega, Same.rfl'⟩
  intro n i t ⟨h0, h1, h2, h3⟩ ih
  unfold L_X12_stills_2
  refine ⟨fun hc => h t (fun j hj => h2 j (by omega)) h3, fun hc => ⟨⟨h0, by omega⟩, fun s3 hs3 => ?_⟩⟩
  subst hs3
  rw [w32_of (by omega) (by omega)]
  refine ih _ _ ⟨by omega, by omega, fun j hj => ?_, h3.up rfl⟩ (by omega)
  by_cases e : j = i.toNat
  · rw [e, up_at]
  · rw [up_j e]
    exact h2 j (by omega)
theorem T_mwind {n : Nat} {s : Sto} {Q : Int → Sto → Prop} (hn : s 75 2 = n) (h20 : n ≤ 20) (h : ∀ f t, WindOf (fun i => s 74 (84 + i)) n f (t 78) → Same (fun a _ => a = 78) s t → Q f t) : P_X12_readsWind s Q := by
  unfold P_X12_readsWind
  refine T_stills (fun s1 f1 f2 => ?_)
  refine lp2 (L_X12_readsWind_6 _ _) (fun i t => ∃ k : Nat, i = k ∧ k ≤ n ∧ (∀ j, j < k → wOk (s 74 (84 + j))) ∧ (∀ j, j < k → t 78 j = wVal (s 74 (84 + j))) ∧ (∀ j, k ≤ j → j < 20 → t 78 j = -1) ∧ Same (fun a _ => a = 78) s t) (fun i _ => ((n : Int) - i).toNat) ?_ 0 s1 ⟨0, rfl, by omega, fun j hj => absurd hj (Nat.not_lt_zero j), fun j hj => absurd hj (Nat.not_lt_zero j), fun j _ hj => f1 j hj, f2⟩
  rintro m i t ⟨k, rfl, i1, i2, i3, i4, i5⟩ ih
  have e2 : (2 : Int).toNat = 2 := rfl
  have e1 : t 75 2 = n := by rw [i5 _ _ (by omega), hn]
  unfold L_X12_readsWind_6
  rw [e2, e1]
  refine ⟨⟨by omega, by omega⟩, fun q => ?_, fun q => ?_⟩
  · have : k = n := by omega
    subst this
    exact h _ t (Or.inl ⟨rfl, i2, i3, i4⟩) i5
  · rw [w32_of (z := 84 + (k : Int)) (by omega) (by omega), show (84 + (k : Int)).toNat = 84 + k by omega, i5 74 _ (by omega)]
    refine ⟨⟨by omega, by omega⟩, fun x4 e4 x5 e5 => ?_⟩
    have hv : (wOk x4 → x5 = wVal x4 ∧ ¬ wVal x4 = -9) ∧ (¬ wOk x4 → x5 = -9) := by
      rw [e5]
      unfold wOk wVal
      constructor
      · rintro (w | w | w | w | w) <;> rw [w] <;> decide
      · intro w
        rw [if_neg (by omega), if_neg (by omega), if_neg (by omega), if_neg (by omega), if_neg (by omega)]
    rw [e4] at hv
    refine ⟨fun q3 => ?_, fun q3 => ?_⟩
    · have hk : ¬ wOk (s 74 (84 + k)) := fun w => (hv.1 w).2 ((hv.1 w).1.symm.trans q3)
      refine T_stills (fun u u1 u2 => ?_)
      exact h k u (Or.inr ⟨k, by omega, rfl, hk, i2, u1⟩) (i5.trans u2)
    · have hk : wOk (s 74 (84 + k)) := Classical.byContradiction (fun w => q3 (hv.2 w))
      refine ⟨⟨by omega, by omega⟩, fun s7 e7 => ?_⟩
      subst e7
      rw [w32_of (by omega) (by omega), Int.toNat_natCast]
      refine ih _ _ ⟨k + 1, by omega, by omega, fun j hj => ?_, fun j hj => ?_, fun j hj1 hj2 => ?_, i5.up rfl⟩ (by omega)
      · by_cases ej : j = k
        · rw [ej]; exact hk
        · exact i2 j (by omega)
      · by_cases ej : j = k
        · rw [ej, up_at, (hv.1 hk).1]
        · rw [up_j ej]; exact i3 j (by omega)
      · rw [up_j (by omega)]; exact i4 j (by omega) hj2
