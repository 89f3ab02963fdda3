/-! ===== the things' text, the model's side ===== -/
def tVal (k : Nat) (x : Int) : Int := if k < 3 then x - 48 else if k = 3 then tKd x else 0
theorem thingOf_v {k : Nat} {x : Int} {s : Sto} (hk : k < 5) : (tOk k x → F_X12_thingOf (k : Int) x s = tVal k x ∧ ¬ tVal k x = -9) ∧ (¬ tOk k x → F_X12_thingOf (k : Int) x s = -9) := by
  have hk5 : k = 0 ∨ k = 1 ∨ k = 2 ∨ k = 3 ∨ k = 4 := by omega
  unfold F_X12_thingOf tOk tVal
  rcases hk5 with rfl | rfl | rfl | rfl | rfl
  · constructor
    · intro h
      rw [if_pos (by decide), if_neg (fun q => absurd (in_0.mp q) (by omega)), if_pos (by omega), w32_of (by omega) (by omega)]
      exact ⟨rfl, by omega⟩
    · intro h
      rw [if_pos (by decide), if_pos (in_0.mpr (by omega))]
  · constructor
    · intro h
      rw [if_neg (by decide), if_pos (by decide), if_neg (fun q => absurd (in_0.mp q) (by omega)), if_pos (by omega), w32_of (by omega) (by omega)]
      exact ⟨rfl, by omega⟩
    · intro h
      rw [if_neg (by decide), if_pos (by decide), if_pos (in_0.mpr (by omega))]
  · constructor
    · intro h
      rw [if_neg (by decide), if_neg (by decide), if_pos (by decide), if_neg (fun q => absurd (in_0.mp q) (by omega)), if_pos (by omega), w32_of (by omega) (by omega)]
      exact ⟨rfl, by omega⟩
    · intro h
      rw [if_neg (by decide), if_neg (by decide), if_pos (by decide), if_pos (in_0.mpr (by omega))]
  · unfold tKd
    constructor
    · intro h
      have hx : x = 112 ∨ x = 98 ∨ x = 116 := by omega
      rcases hx with rfl | rfl | rfl <;> simp
    · intro h
      rw [if_neg (by decide), if_neg (by decide), if_neg (by decide), if_pos (by decide), if_neg (by omega), if_neg (by omega), if_neg (by omega)]
  · constructor
    · intro h
      rw [if_neg (by decide), if_neg (by decide), if_neg (by decide), if_neg (by decide), if_pos (by omega), if_neg (by omega), if_neg (by decide)]
      exact ⟨rfl, by decide⟩
    · intro h
      rw [if_neg (by decide), if_neg (by decide), if_neg (by decide), if_neg (by decide), if_neg (by omega)]
/-- how far the model's row 77 has come behind k signs b -/
def mT (b : Nat → Int) (k : Nat) (t : Sto) : Prop := (∀ q, 5 * q + 1 < k → t 77 (3 * q) = tSt b q) ∧ (∀ q, 5 * q + 1 = k → t 77 (3 * q) = 10 * (b (5 * q) - 48)) ∧ (∀ q, 5 * q + 2 < k → t 77 (3 * q + 1) = b (5 * q + 2) - 48) ∧ (∀ q, 5 * q + 3 < k → t 77 (3 * q + 2) = tKd (b (5 * q + 3))) ∧ t 69 10 = (((k + 1) / 5 : Nat) : Int)
theorem T_mthings0 {n : Nat} {s s1 : Sto} {K1 : Int → Sto → Prop} {K2 : Sto → Prop} (h39 : n ≤ 39) (hs1 : Same (fun a b => a = 77 ∨ (a = 69 ∧ b = 10)) s s1) (h10 : s1 69 10 = 0)
    (h2 : ∀ t, (∀ i, i < n → tOk (i % 5) (s 74 (42 + i))) → mT (fun i => s 74 (42 + i)) n t → Same (fun a b => a = 77 ∨ (a = 69 ∧ b = 10)) s t → K2 t)
    (h1 : ∀ (i : Nat) (t : Sto), i < n → ¬ tOk (i % 5) (s 74 (42 + i)) → (∀ j, j < i → tOk (j % 5) (s 74 (42 + j))) → Same (fun a b => a = 77 ∨ (a = 69 ∧ b = 10)) s t → K1 i t) : ∃ m, L_X12_readsThings_14 (n : Int) K1 K2 m 0 s1 := by
  refine lp2 (L_X12_readsThings_14 (n : Int) K1 K2) (fun i t => ∃ k : Nat, i = k ∧ k ≤ n ∧ (∀ j, j < k → tOk (j % 5) (s 74 (42 + j))) ∧ mT (fun i => s 74 (42 + i)) k t ∧ Same (fun a b => a = 77 ∨ (a = 69 ∧ b = 10)) s t) (fun i _ => ((n : Int) - i).toNat) ?_ 0 s1 ⟨0, rfl, by omega, fun j hj => absurd hj (Nat.not_lt_zero j), ⟨fun q hq => by omega, fun q hq => by omega, fun q hq => by omega, fun q hq => by omega, h10⟩, hs1⟩
  rintro m i t ⟨k, rfl, i1, i2, i3, i4⟩ ih
  unfold L_X12_readsThings_14
  rw [tm5, td5, w32_of (z := ((k % 5 : Nat) : Int)) (by omega) (by omega), w32_of (z := ((k / 5 : Nat) : Int)) (by omega) (by omega), w32_of (z := 42 + (k : Int)) (by omega) (by omega), w32_of (z := 3 * ((k / 5 : Nat) : Int)) (by omega) (by omega), show (42 + (k : Int)).toNat = 42 + k by omega, i4 74 _ (by omega)]
  refine ⟨fun q => ?_, fun q x2 e2 => ⟨⟨by omega, by omega⟩, fun x4 e4 => ?_⟩⟩
  · have e : k = n := by omega
    subst e
    exact h2 t i2 i3 i4
  · rw [e2] at e4
    have hm : k % 5 < 5 := Nat.mod_lt k (by omega)
    obtain ⟨v1, v2⟩ := thingOf_v (x := s 74 (42 + k)) (s := t) hm
    refine ⟨fun w => ?_, fun w x6 e6 => ?_⟩
    · exact h1 k t (by omega) (fun w2 => (v1 w2).2 ((v1 w2).1.symm.trans (e4.symm.trans w))) i2 i4
    · have hk : tOk (k % 5) (s 74 (42 + k)) := Classical.byContradiction (fun w2 => w (e4.trans (v2 w2)))
      rw [(v1 hk).1] at e4
      obtain ⟨m1, m2, m3, m4, m5⟩ := i3
      have i2' : ∀ j, j < k + 1 → tOk (j % 5) (s 74 (42 + j)) := fun j hj => by
        by_cases ej : j = k
        · rw [ej]; exact hk
        · exact i2 j (by omega)
      obtain ⟨g, hg⟩ : ∃ g, g = k / 5 := ⟨_, rfl⟩
      rw [← hg] at e6
      subst e6
      rw [w32_of (z := 3 * (g : Int) + 1) (by omega) (by omega), w32_of (z := 3 * (g : Int) + 2) (by omega) (by omega), w32_of (z := (k : Int) + 1) (by omega) (by omega), show (3 * (g : Int)).toNat = 3 * g by omega, show (3 * (g : Int) + 1).toNat = 3 * g + 1 by omega, show (3 * (g : Int) + 2).toNat = 3 * g + 2 by omega]
      unfold tOk at hk
      unfold tVal at e4
      subst e2
      refine ⟨fun c0 => ⟨⟨by omega, by omega⟩, fun s9 e9 => ?_⟩, fun c0 => ⟨fun c1 => ⟨⟨by omega, by omega⟩, ⟨by omega, by omega⟩, fun s13 e13 => ?_⟩, fun c1 => ⟨fun c2 => ⟨⟨by omega, by omega⟩, fun s16 e16 => ?_⟩, fun c2 => ⟨fun c3 => ⟨⟨by omega, by omega⟩, fun s19 e19 s20 e20 => ?_⟩, fun c3 => ?_⟩⟩⟩⟩
      · have ek : k = 5 * g := by omega
        rw [if_pos (by omega)] at e4
        rw [e4, w32_of (by omega) (by omega)] at e9
        refine ih _ _ ⟨k + 1, by omega, by omega, i2', ⟨fun q hq => ?_, fun q hq => ?_, fun q hq => ?_, fun q hq => ?_, ?_⟩, by rw [e9]; exact i4.up (Or.inl rfl)⟩ (by omega)
        · rw [e9, up_j (by omega)]; exact m1 q (by omega)
        · rw [e9, show q = g by omega, up_at, ek]
        · rw [e9, up_j (by omega)]; exact m3 q (by omega)
        · rw [e9, up_j (by omega)]; exact m4 q (by omega)
        · rw [e9, up_c (by omega), m5]; congr 1; omega
      · have ek : k = 5 * g + 1 := by omega
        rw [if_pos (by omega)] at e4
        rw [m2 g (by omega), e4] at e13
        have b0 := i2 (5 * g) (by omega)
        rw [show 5 * g % 5 = 0 by omega] at b0
        unfold tOk at b0
        dsimp only at e13
        rw [w32_of (by omega) (by omega)] at e13
        refine ih _ _ ⟨k + 1, by omega, by omega, i2', ⟨fun q hq => ?_, fun q hq => by omega, fun q hq => ?_, fun q hq => ?_, ?_⟩, by rw [e13]; exact i4.up (Or.inl rfl)⟩ (by omega)
        · by_cases eq : q = g
          · rw [e13, eq, up_at]
            unfold tSt
            rw [ek]
          · rw [e13, up_j (by omega)]; exact m1 q (by omega)
        · rw [e13, up_j (by omega)]; exact m3 q (by omega)
        · rw [e13, up_j (by omega)]; exact m4 q (by omega)
        · rw [e13, up_c (by omega), m5]; congr 1; omega
      · have ek : k = 5 * g + 2 := by omega
        rw [if_pos (by omega)] at e4
        rw [e4] at e16
        refine ih _ _ ⟨k + 1, by omega, by omega, i2', ⟨fun q hq => ?_, fun q hq => by omega, fun q hq => ?_, fun q hq => ?_, ?_⟩, by rw [e16]; exact i4.up (Or.inl rfl)⟩ (by omega)
        · rw [e16, up_j (by omega)]; exact m1 q (by omega)
        · by_cases eq : q = g
          · rw [e16, eq, up_at, ek]
          · rw [e16, up_j (by omega)]; exact m3 q (by omega)
        · rw [e16, up_j (by omega)]; exact m4 q (by omega)
        · rw [e16, up_c (by omega), m5]; congr 1; omega
      · have ek : k = 5 * g + 3 := by omega
        rw [if_neg (by omega), if_pos (by omega)] at e4
        rw [e4] at e19
        have e10 : s19 69 10 = (((k + 1) / 5 : Nat) : Int) := by rw [e19, up_c (by omega), m5]
        rw [e10, w32_of (by omega) (by omega)] at e20
        refine ih _ _ ⟨k + 1, by omega, by omega, i2', ⟨fun q hq => ?_, fun q hq => by omega, fun q hq => ?_, fun q hq => ?_, ?_⟩, by rw [e20, e19]; exact (i4.up (Or.inl rfl)).up (Or.inr ⟨rfl, rfl⟩)⟩ (by omega)
        · rw [e20, up_c (by omega), e19, up_j (by omega)]; exact m1 q (by omega)
        · rw [e20, up_c (by omega), e19, up_j (by omega)]; exact m3 q (by omega)
        · by_cases eq : q = g
          · rw [e20, up_c (by omega), e19, eq, up_at, ek]
          · rw [e20, up_c (by omega), e19, up_j (by omega)]; exact m4 q (by omega)
        · rw [e20, up_at]; omega
      · have ek : k = 5 * g + 4 := by omega
        refine ih _ _ ⟨k + 1, by omega, by omega, i2', ⟨fun q hq => m1 q (by omega), fun q hq => by omega, fun q hq => m3 q (by omega), fun q hq => m4 q (by omega), ?_⟩, i4⟩ (by omega)
        rw [m5]; congr 1; omega
theorem T_mthings {n : Nat} {s : Sto} {Q : Int → Sto → Prop} (hn : s 75 1 = n) (h39 : n ≤ 39) (h : ∀ f t, ThingsOf (fun i => s 74 (42 + i)) n f (t 69 10) (fun q => t 77 (3 * q)) (fun q => t 77 (3 * q + 1)) (fun q => t 77 (3 * q + 2)) → Same (fun a b => a = 77 ∨ (a = 69 ∧ b = 10)) s t → Q f t) : P_X12_readsThings s Q := by
  unfold P_X12_readsThings
  intro s1 e1
  refine ⟨⟨by omega, by omega⟩, fun x3 e3 => ?_⟩
  have ex : x3 = (n : Int) := by rw [e3, show (1 : Int).toNat = 1 from rfl, e1, up_c (by omega), hn]
  subst ex
  refine T_mthings0 h39 (by rw [e1]; exact Same.rfl'.up (Or.inr ⟨rfl, rfl⟩)) (by rw [e1, up_at]) (fun t t1 t2 t3 => ?_) (fun i t t1 t2 t3 t4 s6 e6 => ?_)
  · obtain ⟨m1, m2, m3, m4, m5⟩ := t2
    rw [tm5, w32_of (by omega) (by omega)]
    refine ⟨fun q => ?_, fun q => ⟨fun q2 => ?_, fun q2 s10 e10 => ?_⟩⟩
    · exact h _ t (Or.inl ⟨rfl, by omega, t1, m5, fun w hw => ⟨m1 w (by omega), m3 w (by omega), m4 w (by omega)⟩⟩) t3
    · exact h _ t (Or.inl ⟨rfl, by omega, t1, m5, fun w hw => ⟨m1 w (by omega), m3 w (by omega), m4 w (by omega)⟩⟩) t3
    · exact h _ s10 (Or.inr (Or.inl ⟨rfl, by omega, t1, by rw [e10, up_at]⟩)) (by rw [e10]; exact t3.up (Or.inr ⟨rfl, rfl⟩))
  · exact h _ s6 (Or.inr (Or.inr ⟨i, t1, rfl, t2, t3, by rw [e6, up_at]⟩)) (by rw [e6]; exact t4.up (Or.inr ⟨rfl, rfl⟩))
