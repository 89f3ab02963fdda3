/-! ===== sheets: sheet, lose, lay, get, copy ===== -/
def RS1 (s : Sto) (k : Nat) : Prop := s (36 + 2 * k) 0 = s 70 k ∧ (-1 ≤ s 70 k ∧ s 70 k ≤ 2) ∧ (s 70 k ≠ -1 → s (36 + 2 * k) 1 = s 71 k ∧ 0 ≤ s 71 k ∧ s 71 k ≤ 60 ∧ ∀ i : Nat, (i : Int) < s 71 k → s (36 + 2 * k + 1) i = s 72 (60 * k + i))
def RSh (s : Sto) : Prop := s 0 11 = s 69 4 ∧ ∀ k, k < 4 → RS1 s k
def DSh (a b : Nat) : Prop := (36 ≤ a ∧ a ≤ 43) ∨ (70 ≤ a ∧ a ≤ 73) ∨ (a = 0 ∧ b = 11) ∨ (a = 69 ∧ b = 4)
theorem al_sheet {k : Nat} (h : k < 4) : al (36 + 2 * k + 1) = 60 := by
  have h2 : ∀ k, k < 4 → al (36 + 2 * k + 1) = 60 := by decide
  exact h2 k h
theorem RS1.cg {s t : Sto} {k : Nat} (h : RS1 s k) (h0 : t (36 + 2 * k) 0 = s (36 + 2 * k) 0) (h1 : t (36 + 2 * k) 1 = s (36 + 2 * k) 1) (h2 : t 70 k = s 70 k) (h3 : t 71 k = s 71 k) (h4 : ∀ i, i < 60 → t (36 + 2 * k + 1) i = s (36 + 2 * k + 1) i) (h5 : ∀ i, i < 60 → t 72 (60 * k + i) = s 72 (60 * k + i)) : RS1 t k := by
  obtain ⟨a1, a2, a3⟩ := h
  unfold RS1
  rw [h0, h1, h2, h3]
  refine ⟨a1, a2, fun q => ?_⟩
  obtain ⟨b1, b2, b3, b4⟩ := a3 q
  exact ⟨b1, b2, b3, fun i hi => by rw [h4 i (by omega), h5 i (by omega)]; exact b4 i hi⟩
theorem RSh.found {s : Sto} {n : Int} (h : RSh s) : RSh (up (up s 0 11 n) 69 4 n) := by
  refine ⟨?_, fun k hk => (h.2 k hk).cg ?_ ?_ ?_ ?_ (fun i _ => ?_) (fun i _ => ?_)⟩
  · rw [up_c (by omega), up_at, up_at]
  all_goals rw [up_c (by omega), up_c (by omega)]
theorem DSh.found {s : Sto} {n : Int} : Same DSh s (up (up s 0 11 n) 69 4 n) :=
  (Same.rfl'.up (Or.inr (Or.inr (Or.inl ⟨rfl, rfl⟩)))).up (Or.inr (Or.inr (Or.inr ⟨rfl, rfl⟩)))
theorem found_v {n : Int} {s t : Sto} : F_X12_finds n t = F_X11_found n s := rfl
theorem sheet_ix {k : Nat} {i : Int} (hk : k < 4) (h0 : 0 ≤ i) (h1 : i < 60) : w32 (w32 (60 * (k : Int)) + i) = 60 * (k : Int) + i := by
  rw [w32_of (z := 60 * (k : Int)) (by omega) (by omega), w32_of (by omega) (by omega)]
theorem sheet_tn {k : Nat} {i : Int} (h0 : 0 ≤ i) : (60 * (k : Int) + i).toNat = 60 * k + i.toNat := by omega
/-- the model's rows of one sheet are emptied -/
theorem T_msheet {k : Nat} {n : Int} {s : Sto} {K : Sto → Prop} (hk : k < 4) (hn : 0 ≤ n ∧ n ≤ 60) (h : ∀ t, (∀ i : Nat, (i : Int) < n → t 72 (60 * k + i) = 0) → Same (fun a b => a = 72 ∧ 60 * k ≤ b ∧ b < 60 * k + 60) s t → K t) : ∃ m, L_X12_sheet_55 (k : Int) n K m 0 s := by
  refine lp2 (L_X12_sheet_55 (k : Int) n K) (fun i t => 0 ≤ i ∧ i ≤ n ∧ (∀ j : Nat, (j : Int) < i → t 72 (60 * k + j) = 0) ∧ Same (fun a b => a = 72 ∧ 60 * k ≤ b ∧ b < 60 * k + 60) s t) (fun i _ => (n - i).toNat) ?_ 0 s ⟨by omega, by omega, fun j hj => by omega, Same.rfl'⟩
  intro m i t ⟨h0, h1, h2, h3⟩ ih
  unfold L_X12_sheet_55
  refine ⟨fun hc => h t (fun j hj => h2 j (by omega)) h3, fun hc => ?_⟩
  rw [sheet_ix hk h0 (by omega)]
  refine ⟨⟨by omega, by omega⟩, fun s3 e3 => ?_⟩
  subst e3
  rw [w32_of (by omega) (by omega), sheet_tn h0]
  refine ih _ _ ⟨by omega, by omega, fun j hj => ?_, h3.up ⟨rfl, by omega, by omega⟩⟩ (by omega)
  by_cases e : j = i.toNat
  · rw [e, up_at]
  · rw [up_j (by omega)]
    exact h2 j (by omega)
theorem op_sheet {v1 v2 v3 : Int} {s : Sto} (hR : RSh s) : P_X11_sheet v1 v2 v3 s (fun r s1 => P_X12_sheet v1 v2 v3 s1 (fun r2 s2 => r2 = r ∧ RSh s2 ∧ Same DSh s s2)) := by
  unfold P_X11_sheet
  refine ⟨fun h => ?_, fun h => ⟨fun h2 => ?_, fun h2 => ⟨fun h3 => ⟨fun h4 => ?_, fun h4 s10 e10 => ?_⟩, fun h3 => ?_⟩⟩⟩
  · exact ⟨fun _ => ⟨rfl, hR, Same.rfl'⟩, fun q => absurd (isSheet_0.mpr (within_0.mp h)) q⟩
  · exact ⟨fun _ => ⟨rfl, hR, Same.rfl'⟩, fun _ => ⟨fun _ => ⟨rfl, hR, Same.rfl'⟩, fun q => absurd (in_0.mpr (within_0.mp h2)) q⟩⟩
  · have hv1 := Decidable.not_not.mp (mt within_0.mpr h)
    have hv2 := Decidable.not_not.mp (mt within_0.mpr h2)
    obtain ⟨k, rfl⟩ := Int.eq_ofNat_of_zero_le hv1.1
    have hk : k < 4 := by omega
    rw [Int.toNat_natCast]
    refine ⟨⟨hv1.1, by omega⟩, T_renew ⟨h4, h3⟩ (fun t t0 t1 t2 t3 => ?_)⟩
    rw [al_sheet hk] at t2
    unfold P_X12_sheet
    refine ⟨fun q => absurd hv1 (isSheet_0.mp q), fun _ => ⟨fun q => absurd hv2 (in_0.mp q), fun _ => ⟨fun _ => ⟨fun _ => ?_, fun q => absurd h4 q⟩, fun q => absurd h3 q⟩⟩⟩
    rw [Int.toNat_natCast]
    refine ⟨⟨hv1.1, by omega⟩, fun s8 e8 => ⟨⟨hv1.1, by omega⟩, fun s10 e10 => T_msheet hk ⟨h4, h3⟩ (fun u u1 u2 => ⟨rfl, ?_, ?_⟩)⟩⟩
    · refine ⟨?_, fun j hj => ?_⟩
      · rw [u2 0 11 (by omega), u2 69 4 (by omega), e10, up_c (by omega), up_c (by omega), e8, up_c (by omega), up_c (by omega), t3 0 11 (by omega), t3 69 4 (by omega)]
        exact hR.1
      · by_cases ej : j = k
        · subst ej
          have f0 : u 70 j = v2 := by rw [u2 70 j (by omega), e10, up_c (by omega), e8, up_at]
          have f1 : u 71 j = v3 := by rw [u2 71 j (by omega), e10, up_at]
          have f2 : u (36 + 2 * j) 0 = v2 := by rw [u2 _ 0 (by omega), e10, up_c (by omega), e8, up_c (by omega), t0]
          have f3 : u (36 + 2 * j) 1 = v3 := by rw [u2 _ 1 (by omega), e10, up_c (by omega), e8, up_c (by omega), t1]
          unfold RS1
          rw [f0, f1, f2, f3]
          refine ⟨rfl, by omega, fun _ => ⟨rfl, h4, h3, fun i hi => ?_⟩⟩
          rw [u1 i hi, u2 _ i (by omega), e10, up_c (by omega), e8, up_c (by omega), t2 i (by omega)]
        · have e1 : ∀ a b, ¬ (a = 72 ∧ 60 * k ≤ b ∧ b < 60 * k + 60) → ¬ (a = 71 ∧ b = k) → ¬ (a = 70 ∧ b = k) → ¬ (a = 36 + 2 * k + 1 ∨ (a = 36 + 2 * k ∧ (b = 0 ∨ b = 1))) → u a b = s a b := by
            intro a b c1 c2 c3 c4
            rw [u2 a b c1, e10]
            unfold up
            rw [if_neg c2, e8]
            unfold up
            rw [if_neg c3, t3 a b c4]
          refine (hR.2 j hj).cg ?_ ?_ ?_ ?_ (fun i _ => ?_) (fun i _ => ?_)
          all_goals exact e1 _ _ (by omega) (by omega) (by omega) (by omega)
    · intro a b hd
      unfold DSh at hd
      rw [u2 a b (by omega), e10]
      unfold up
      rw [if_neg (by omega), e8]
      unfold up
      rw [if_neg (by omega), t3 a b (by omega)]
  · subst e10
    have hv1 := Decidable.not_not.mp (mt within_0.mpr h)
    have hv2 := Decidable.not_not.mp (mt within_0.mpr h2)
    unfold P_X12_sheet
    refine ⟨fun q => absurd hv1 (isSheet_0.mp q), fun _ => ⟨fun q => absurd hv2 (in_0.mp q), fun _ => ⟨fun _ => ⟨fun q => absurd q h4, fun _ s13 e13 => ?_⟩, fun q => absurd h3 q⟩⟩⟩
    subst e13
    exact ⟨rfl, hR.found, DSh.found⟩
  · have hv1 := Decidable.not_not.mp (mt within_0.mpr h)
    have hv2 := Decidable.not_not.mp (mt within_0.mpr h2)
    unfold P_X12_sheet
    exact ⟨fun q => absurd hv1 (isSheet_0.mp q), fun _ => ⟨fun q => absurd hv2 (in_0.mp q), fun _ => ⟨fun q => absurd q h3, fun _ => ⟨rfl, hR, Same.rfl'⟩⟩⟩⟩
theorem op_lose {v1 : Int} {s : Sto} (hR : RSh s) : P_X11_lose v1 s (fun r s1 => O_X12_lose v1 s1 ∧ F_X12_lose v1 s1 = r ∧ RSh (S_X12_lose v1 s1) ∧ Same DSh s (S_X12_lose v1 s1)) := by
  unfold P_X11_lose
  refine ⟨fun h => ?_, fun h => ?_⟩
  · have g := isSheet_0 (s := s).mpr (within_0.mp h)
    dsimp only
    unfold O_X12_lose F_X12_lose S_X12_lose
    rw [if_pos g, if_pos g]
    exact ⟨⟨fun _ => trivial, fun q => absurd g q⟩, rfl, hR, Same.rfl'⟩
  · have hv1 := Decidable.not_not.mp (mt within_0.mpr h)
    obtain ⟨k, rfl⟩ := Int.eq_ofNat_of_zero_le hv1.1
    have hk : k < 4 := by omega
    rw [Int.toNat_natCast]
    have hin : inb (k : Int) 4 := ⟨hv1.1, by omega⟩
    have g : ∀ t : Sto, ¬ F_X12_isSheet (k : Int) t = 0 := fun t q => absurd hv1 (isSheet_0.mp q)
    obtain ⟨a1, a2, a3⟩ := hR.2 k hk
    refine ⟨hin, fun h2 => ⟨hin, fun x7 e7 => ⟨hin, T_renew ⟨by omega, by omega⟩ (fun t t0 t1 t2 t3 => ?_)⟩⟩, fun h2 s11 e11 => ?_⟩
    · rw [isLost_0, a1] at h2
      obtain ⟨b1, b2, b3, b4⟩ := a3 h2
      have c0 : 0 ≤ t 70 k := by rw [t3 70 k (by omega)]; omega
      have e0 : ∀ a b, ¬ (a = 36 + 2 * k + 1 ∨ (a = 36 + 2 * k ∧ (b = 0 ∨ b = 1))) → ¬ (a = 70 ∧ b = k) → up t 70 k (-1) a b = s a b := by
        intro a b c1 c2
        unfold up
        rw [if_neg c2, t3 a b c1]
      unfold O_X12_lose F_X12_lose S_X12_lose
      rw [if_neg (g t), if_neg (g t), Int.toNat_natCast, if_pos c0, if_pos c0]
      refine ⟨⟨fun q => absurd q (g t), fun _ => ⟨hin, fun _ => ⟨hin, hin, trivial⟩, fun q => absurd c0 q⟩⟩, ?_, ⟨?_, fun j hj => ?_⟩, ?_⟩
      · rw [e0 _ _ (by omega) (by omega), e7, b1]
      · rw [e0 _ _ (by omega) (by omega), e0 _ _ (by omega) (by omega)]
        exact hR.1
      · by_cases ej : j = k
        · subst ej
          unfold RS1
          rw [up_at, up_c (by omega), t0]
          exact ⟨rfl, by omega, fun q => absurd rfl q⟩
        · refine (hR.2 j hj).cg ?_ ?_ ?_ ?_ (fun i _ => ?_) (fun i _ => ?_)
          all_goals exact e0 _ _ (by omega) (by omega)
      · intro a b hd
        unfold DSh at hd
        exact e0 a b (by omega) (by omega)
    · have h3 : s 70 k = -1 := by
        rw [isLost_0, a1] at h2
        exact Decidable.not_not.mp h2
      have e70 : s11 70 k = -1 := by rw [e11]; unfold S_X11_found; rw [up_c (by omega)]; exact h3
      have c0 : ¬ 0 ≤ s11 70 k := by omega
      dsimp only
      unfold O_X12_lose F_X12_lose S_X12_lose
      rw [if_neg (g s11), if_neg (g s11), Int.toNat_natCast, if_neg c0, if_neg c0]
      subst e11
      exact ⟨⟨fun q => absurd q (g _), fun _ => ⟨hin, fun q => absurd q c0, fun _ => trivial⟩⟩, rfl, hR.found, DSh.found⟩

/-- both sides find the same lack -/
theorem lacks_v {s t : Sto} {k : Nat} {f i : Int} (hk : k < 4) (h : RS1 s k) (h70 : t 70 k = s 70 k) (h71 : t 71 k = s 71 k) :
    (F_X7_trouble (36 + 2 * k) f i s = 0 → (s 70 k = f ∧ 0 ≤ f ∧ 0 ≤ i ∧ i < s 71 k ∧ i < 60) ∧ F_X12_lacks (k : Int) f i t = 0 ∧ S_X12_lacks (k : Int) f i t = t) ∧
    (¬ F_X7_trouble (36 + 2 * k) f i s = 0 → 0 ≤ f → ¬ F_X12_lacks (k : Int) f i t = 0 ∧ F_X12_lacks (k : Int) f i t = F_X11_found (F_X7_trouble (36 + 2 * k) f i s) s ∧ S_X12_lacks (k : Int) f i t = up t 69 4 (F_X7_trouble (36 + 2 * k) f i s)) := by
  obtain ⟨a1, a2, a3⟩ := h
  unfold F_X12_lacks S_X12_lacks F_X7_trouble
  rw [Int.toNat_natCast, h70, h71, a1]
  by_cases c1 : s 70 k = -1
  · have e1 : ¬ F_X7_isLost (36 + 2 * k) s = 0 := by rw [isLost_0, a1]; exact fun q => q c1
    have e2 : ¬ 0 ≤ s 70 k := by omega
    rw [if_neg e1, if_neg e2, if_neg e2]
    exact ⟨fun q => absurd q (by decide), fun _ _ => ⟨by unfold F_X12_finds; decide, rfl, rfl⟩⟩
  · have e1 : F_X7_isLost (36 + 2 * k) s = 0 := by rw [isLost_0, a1]; exact c1
    have e2 : 0 ≤ s 70 k := by omega
    obtain ⟨b1, b2, b3, b4⟩ := a3 c1
    rw [if_pos e1, if_pos e2, if_pos e2]
    by_cases c2 : s 70 k = f
    · rw [if_pos c2, if_pos c2, if_pos c2]
      have e3 : w32 (s 71 k - 1) = s 71 k - 1 := w32_of (by omega) (by omega)
      rw [e3]
      unfold F_X7_hasItem
      rw [b1]
      by_cases c3 : i < 0
      · have e4 : F_X12_in i 0 (s 71 k - 1) t = 0 := in_0.mpr (by omega)
        rw [if_pos c3, if_pos e4, if_pos e4, if_pos rfl]
        exact ⟨fun q => absurd q (by decide), fun _ _ => ⟨by unfold F_X12_finds; decide, rfl, rfl⟩⟩
      · rw [if_neg c3]
        by_cases c4 : s 71 k ≤ i
        · have e4 : F_X12_in i 0 (s 71 k - 1) t = 0 := in_0.mpr (by omega)
          rw [if_pos c4, if_pos e4, if_pos e4, if_pos rfl]
          exact ⟨fun q => absurd q (by decide), fun _ _ => ⟨by unfold F_X12_finds; decide, rfl, rfl⟩⟩
        · have e4 : ¬ F_X12_in i 0 (s 71 k - 1) t = 0 := fun q => absurd (in_0.mp q) (by omega)
          rw [if_neg c4, if_neg e4, if_neg e4, if_neg (by decide)]
          exact ⟨fun _ => ⟨⟨c2, by omega, by omega, by omega, by omega⟩, rfl, rfl⟩, fun q => absurd rfl q⟩
    · rw [if_neg c2, if_neg c2, if_neg c2]
      exact ⟨fun q => absurd q (by decide), fun _ _ => ⟨by unfold F_X12_finds; decide, rfl, rfl⟩⟩
theorem lacks_o {t : Sto} {k : Nat} {f i : Int} (hk : k < 4) : O_X12_lacks (k : Int) f i t := by
  have hin : inb (k : Int) 4 := ⟨by omega, by omega⟩
  unfold O_X12_lacks
  exact ⟨hin, fun _ => ⟨hin, fun _ => ⟨hin, trivial⟩, fun _ => trivial⟩, fun _ => trivial⟩
theorem put_s {o : Nat} {f i v : Int} {s : Sto} (h0 : s o 0 = f) (hf : 0 ≤ f ∧ f ≤ 2) (hi : 0 ≤ i) (h1 : i < s o 1) (t : Sto) : S_X7_put o i v s = up s (o + 1) i.toNat (F_X12_cut f v t) := by
  have e1 : ¬ F_X7_hasItem o i s = 0 := by
    unfold F_X7_hasItem
    rw [if_neg (by omega), if_neg (by omega)]
    decide
  unfold S_X7_put F_X12_cut
  rw [if_neg e1, h0]
  split
  · rfl
  · split <;> rfl
theorem op_lay {v1 v2 v3 v4 : Int} {s : Sto} (hR : RSh s) : O_X11_lay v1 v2 v3 v4 s ∧ O_X12_lay v1 v2 v3 v4 (S_X11_lay v1 v2 v3 v4 s) ∧ F_X12_lay v1 v2 v3 v4 (S_X11_lay v1 v2 v3 v4 s) = F_X11_lay v1 v2 v3 v4 s ∧ RSh (S_X12_lay v1 v2 v3 v4 (S_X11_lay v1 v2 v3 v4 s)) ∧ Same DSh s (S_X12_lay v1 v2 v3 v4 (S_X11_lay v1 v2 v3 v4 s)) := by
  by_cases h1 : 0 ≤ v1 ∧ v1 ≤ 3
  · have g1 : ∀ t : Sto, ¬ F_X12_isSheet v1 t = 0 := fun t q => absurd h1 (isSheet_0.mp q)
    have g1' : ∀ t : Sto, ¬ F_X11_within v1 0 3 t = 0 := fun t q => absurd h1 (within_0.mp q)
    by_cases h2 : 0 ≤ v2 ∧ v2 ≤ 2
    · have g2 : ∀ t : Sto, ¬ F_X12_in v2 0 2 t = 0 := fun t q => absurd h2 (in_0.mp q)
      have g2' : ∀ t : Sto, ¬ F_X11_within v2 0 2 t = 0 := fun t q => absurd h2 (within_0.mp q)
      obtain ⟨k, rfl⟩ := Int.eq_ofNat_of_zero_le h1.1
      have hk : k < 4 := by omega
      have hin : inb (k : Int) 4 := ⟨h1.1, by omega⟩
      have hS := hR.2 k hk
      by_cases c : F_X7_trouble (36 + 2 * k) v2 v3 s = 0
      · obtain ⟨⟨d1, d2, d3, d4, d5⟩, -, -⟩ := (lacks_v (t := s) (f := v2) (i := v3) hk hS rfl rfl).1 c
        obtain ⟨a1, a2, a3⟩ := hS
        obtain ⟨b1, b2, b3, b4⟩ := a3 (by omega)
        have eS : S_X11_lay (k : Int) v2 v3 v4 s = up s (36 + 2 * k + 1) v3.toNat (F_X12_cut v2 v4 s) := by
          unfold S_X11_lay
          rw [if_neg (g1' s), if_neg (g2' s), Int.toNat_natCast, if_pos c]
          exact put_s (by rw [a1, d1]) h2 d3 (by rw [b1]; exact d4) s
        have eF : F_X11_lay (k : Int) v2 v3 v4 s = 1 := by
          unfold F_X11_lay
          rw [if_neg (g1' s), if_neg (g2' s), Int.toNat_natCast, if_pos c]
        obtain ⟨-, d6, d7⟩ := (lacks_v (t := up s (36 + 2 * k + 1) v3.toNat (F_X12_cut v2 v4 s)) (f := v2) (i := v3) hk (hR.2 k hk) (by rw [up_c (by omega)]) (by rw [up_c (by omega)])).1 c
        rw [eS, eF]
        unfold O_X11_lay O_X12_lay F_X12_lay S_X12_lay
        rw [if_neg (g1 _), if_neg (g1 _), if_neg (g2 _), if_neg (g2 _), if_pos d6, if_pos d6, d7, sheet_ix hk d3 d5, sheet_tn d3, Int.toNat_natCast]
        refine ⟨⟨fun q => absurd q (g1' s), fun _ => ⟨fun q => absurd q (g2' s), fun _ => ⟨hin, fun _ => ⟨hin, ?_, trivial⟩, fun q => absurd c q⟩⟩⟩, ⟨fun q => absurd q (g1 _), fun _ => ⟨fun q => absurd q (g2 _), fun _ => ⟨lacks_o hk, fun _ => ⟨⟨by omega, by omega⟩, trivial⟩, fun q => absurd d6 q⟩⟩⟩, rfl, ⟨?_, fun j hj => ?_⟩, ?_⟩
        · have hi : inb v3 60 := ⟨d3, by omega⟩
          unfold O_X7_put
          exact ⟨fun _ => trivial, fun _ => ⟨fun _ => ⟨hi, trivial⟩, fun _ => ⟨fun _ => ⟨hi, trivial⟩, fun _ => ⟨hi, trivial⟩⟩⟩⟩
        · rw [up_c (by omega), up_c (by omega), up_c (by omega), up_c (by omega)]
          exact hR.1
        · by_cases ej : j = k
          · subst ej
            unfold RS1
            rw [up_c (by omega), up_c (by omega), up_c (by omega), up_c (by omega), up_c (by omega), up_c (by omega), up_c (by omega), up_c (by omega)]
            refine ⟨a1, a2, fun q => ⟨b1, b2, b3, fun i hi => ?_⟩⟩
            rw [up_c (by omega)]
            by_cases ei : i = v3.toNat
            · rw [ei, up_at, up_at]
              rfl
            · rw [up_j ei, up_j (by omega), up_c (by omega)]
              exact b4 i hi
          · have hj2 := hR.2 j hj
            refine hj2.cg ?_ ?_ ?_ ?_ (fun i _ => ?_) (fun i _ => ?_)
            · rw [up_c (by omega), up_c (by omega)]
            · rw [up_c (by omega), up_c (by omega)]
            · rw [up_c (by omega), up_c (by omega)]
            · rw [up_c (by omega), up_c (by omega)]
            · rw [up_c (by omega), up_c (by omega)]
            · rw [up_j (by omega), up_c (by omega)]
        · exact (Same.rfl'.up (Or.inl (by omega))).up (Or.inr (Or.inl (by omega)))
      · have eS : S_X11_lay (k : Int) v2 v3 v4 s = up s 0 11 (F_X7_trouble (36 + 2 * k) v2 v3 s) := by
          unfold S_X11_lay
          rw [if_neg (g1' s), if_neg (g2' s), Int.toNat_natCast, if_neg c]
          rfl
        have eF : F_X11_lay (k : Int) v2 v3 v4 s = F_X11_found (F_X7_trouble (36 + 2 * k) v2 v3 s) s := by
          unfold F_X11_lay
          rw [if_neg (g1' s), if_neg (g2' s), Int.toNat_natCast, if_neg c]
        obtain ⟨d5, d6, d7⟩ := (lacks_v (t := up s 0 11 (F_X7_trouble (36 + 2 * k) v2 v3 s)) (f := v2) (i := v3) hk (hR.2 k hk) (by rw [up_c (by omega)]) (by rw [up_c (by omega)])).2 c h2.1
        rw [eS, eF]
        unfold O_X11_lay O_X12_lay F_X12_lay S_X12_lay
        rw [if_neg (g1 _), if_neg (g1 _), if_neg (g2 _), if_neg (g2 _), if_neg d5, if_neg d5, d7, d6, Int.toNat_natCast]
        exact ⟨⟨fun q => absurd q (g1' s), fun _ => ⟨fun q => absurd q (g2' s), fun _ => ⟨hin, fun q => absurd q c, fun _ => trivial⟩⟩⟩, ⟨fun q => absurd q (g1 _), fun _ => ⟨fun q => absurd q (g2 _), fun _ => ⟨lacks_o hk, fun q => absurd (d6.trans q) d5, fun _ => trivial⟩⟩⟩, rfl, hR.found, DSh.found⟩
    · have g2 : ∀ t : Sto, F_X12_in v2 0 2 t = 0 := fun t => in_0.mpr h2
      have g2' : ∀ t : Sto, F_X11_within v2 0 2 t = 0 := fun t => within_0.mpr h2
      unfold O_X11_lay O_X12_lay F_X12_lay S_X12_lay F_X11_lay S_X11_lay
      rw [if_neg (g1' s), if_pos (g2' s), if_neg (g1' s), if_pos (g2' s), if_neg (g1 s), if_neg (g1 s), if_pos (g2 s), if_pos (g2 s)]
      exact ⟨⟨fun q => absurd q (g1' s), fun _ => ⟨fun _ => trivial, fun q => absurd (g2' s) q⟩⟩, ⟨fun q => absurd q (g1 s), fun _ => ⟨fun _ => trivial, fun q => absurd (g2 s) q⟩⟩, rfl, hR, Same.rfl'⟩
  · have g1 : ∀ t : Sto, F_X12_isSheet v1 t = 0 := fun t => isSheet_0.mpr h1
    have g1' : ∀ t : Sto, F_X11_within v1 0 3 t = 0 := fun t => within_0.mpr h1
    unfold O_X11_lay O_X12_lay F_X12_lay S_X12_lay F_X11_lay S_X11_lay
    rw [if_pos (g1' s), if_pos (g1' s), if_pos (g1 s), if_pos (g1 s)]
    exact ⟨⟨fun _ => trivial, fun q => absurd (g1' s) q⟩, ⟨fun _ => trivial, fun q => absurd (g1 s) q⟩, rfl, hR, Same.rfl'⟩

theorem op_get {v1 v2 v3 : Int} {s : Sto} (hR : RSh s) : O_X11_get v1 v2 v3 s ∧ O_X12_get v1 v2 v3 (S_X11_get v1 v2 v3 s) ∧ F_X12_get v1 v2 v3 (S_X11_get v1 v2 v3 s) = F_X11_get v1 v2 v3 s ∧ RSh (S_X12_get v1 v2 v3 (S_X11_get v1 v2 v3 s)) ∧ Same DSh s (S_X12_get v1 v2 v3 (S_X11_get v1 v2 v3 s)) := by
  by_cases h1 : 0 ≤ v1 ∧ v1 ≤ 3
  · have g1 : ∀ t : Sto, ¬ F_X12_isSheet v1 t = 0 := fun t q => absurd h1 (isSheet_0.mp q)
    have g1' : ∀ t : Sto, ¬ F_X11_within v1 0 3 t = 0 := fun t q => absurd h1 (within_0.mp q)
    by_cases h2 : 0 ≤ v2 ∧ v2 ≤ 2
    · have g2 : ∀ t : Sto, ¬ F_X12_in v2 0 2 t = 0 := fun t q => absurd h2 (in_0.mp q)
      have g2' : ∀ t : Sto, ¬ F_X11_within v2 0 2 t = 0 := fun t q => absurd h2 (within_0.mp q)
      obtain ⟨k, rfl⟩ := Int.eq_ofNat_of_zero_le h1.1
      have hk : k < 4 := by omega
      have hin : inb (k : Int) 4 := ⟨h1.1, by omega⟩
      by_cases c : F_X7_trouble (36 + 2 * k) v2 v3 s = 0
      · obtain ⟨⟨d1, d2, d3, d4, d5⟩, d6, d7⟩ := (lacks_v (t := s) (f := v2) (i := v3) hk (hR.2 k hk) rfl rfl).1 c
        obtain ⟨a1, a2, a3⟩ := hR.2 k hk
        obtain ⟨b1, b2, b3, b4⟩ := a3 (by omega)
        have eS : S_X11_get (k : Int) v2 v3 s = s := by
          unfold S_X11_get
          rw [if_neg (g1' s), if_neg (g2' s), Int.toNat_natCast, if_pos c]
        have e1 : ¬ F_X7_hasItem (36 + 2 * k) v3 s = 0 := by
          unfold F_X7_hasItem
          rw [if_neg (by omega), if_neg (by omega)]
          decide
        have eF : F_X11_get (k : Int) v2 v3 s = s (36 + 2 * k + 1) v3.toNat := by
          unfold F_X11_get F_X7_item
          rw [if_neg (g1' s), if_neg (g2' s), Int.toNat_natCast, if_pos c, if_neg e1]
        rw [eS, eF]
        unfold O_X11_get O_X12_get F_X12_get S_X12_get O_X7_item
        rw [if_neg (g1 _), if_neg (g1 _), if_neg (g2 _), if_neg (g2 _), if_pos d6, if_pos d6, d7, sheet_ix hk d3 d5, sheet_tn d3, Int.toNat_natCast]
        refine ⟨⟨fun q => absurd q (g1' s), fun _ => ⟨fun q => absurd q (g2' s), fun _ => ⟨hin, fun _ => ⟨hin, ⟨fun q => absurd q e1, fun _ => ⟨⟨d3, by omega⟩, trivial⟩⟩, trivial⟩, fun q => absurd c q⟩⟩⟩, ⟨fun q => absurd q (g1 _), fun _ => ⟨fun q => absurd q (g2 _), fun _ => ⟨lacks_o hk, fun _ => ⟨⟨by omega, by omega⟩, trivial⟩, fun q => absurd d6 q⟩⟩⟩, ?_, hR, Same.rfl'⟩
        exact (b4 v3.toNat (by omega)).symm
      · have eS : S_X11_get (k : Int) v2 v3 s = up s 0 11 (F_X7_trouble (36 + 2 * k) v2 v3 s) := by
          unfold S_X11_get
          rw [if_neg (g1' s), if_neg (g2' s), Int.toNat_natCast, if_neg c]
          rfl
        have eF : F_X11_get (k : Int) v2 v3 s = -2147483648 := by
          unfold F_X11_get
          rw [if_neg (g1' s), if_neg (g2' s), Int.toNat_natCast, if_neg c]
        obtain ⟨d5, d6, d7⟩ := (lacks_v (t := up s 0 11 (F_X7_trouble (36 + 2 * k) v2 v3 s)) (f := v2) (i := v3) hk (hR.2 k hk) (by rw [up_c (by omega)]) (by rw [up_c (by omega)])).2 c h2.1
        rw [eS, eF]
        unfold O_X11_get O_X12_get F_X12_get S_X12_get
        rw [if_neg (g1 _), if_neg (g1 _), if_neg (g2 _), if_neg (g2 _), if_neg d5, if_neg d5, d7, Int.toNat_natCast]
        exact ⟨⟨fun q => absurd q (g1' s), fun _ => ⟨fun q => absurd q (g2' s), fun _ => ⟨hin, fun q => absurd q c, fun _ => trivial⟩⟩⟩, ⟨fun q => absurd q (g1 _), fun _ => ⟨fun q => absurd q (g2 _), fun _ => ⟨lacks_o hk, fun q => absurd q d5, fun _ => trivial⟩⟩⟩, rfl, hR.found, DSh.found⟩
    · have g2 : ∀ t : Sto, F_X12_in v2 0 2 t = 0 := fun t => in_0.mpr h2
      have g2' : ∀ t : Sto, F_X11_within v2 0 2 t = 0 := fun t => within_0.mpr h2
      unfold O_X11_get O_X12_get F_X12_get S_X12_get F_X11_get S_X11_get
      rw [if_neg (g1' s), if_pos (g2' s), if_neg (g1' s), if_pos (g2' s), if_neg (g1 s), if_neg (g1 s), if_pos (g2 s), if_pos (g2 s)]
      exact ⟨⟨fun q => absurd q (g1' s), fun _ => ⟨fun _ => trivial, fun q => absurd (g2' s) q⟩⟩, ⟨fun q => absurd q (g1 s), fun _ => ⟨fun _ => trivial, fun q => absurd (g2 s) q⟩⟩, rfl, hR, Same.rfl'⟩
  · have g1 : ∀ t : Sto, F_X12_isSheet v1 t = 0 := fun t => isSheet_0.mpr h1
    have g1' : ∀ t : Sto, F_X11_within v1 0 3 t = 0 := fun t => within_0.mpr h1
    unfold O_X11_get O_X12_get F_X12_get S_X12_get F_X11_get S_X11_get
    rw [if_pos (g1' s), if_pos (g1' s), if_pos (g1 s), if_pos (g1 s)]
    exact ⟨⟨fun _ => trivial, fun q => absurd (g1' s) q⟩, ⟨fun _ => trivial, fun q => absurd (g1 s) q⟩, rfl, hR, Same.rfl'⟩
/-- the model's two loops of copy: out into moved, and back -/
theorem T_mcopy1 {k : Nat} {i n v3 v4 : Int} {s : Sto} {K : Sto → Prop} (hk : k < 4) (hi : 0 ≤ i) (hn : 0 ≤ n) (hin : i + n ≤ 60) (h : ∀ t, (∀ a : Nat, (a : Int) < n → t 73 a = s 72 (60 * k + (i.toNat + a))) → Same (fun a _ => a = 73) s t → K t) : ∃ m, L_X12_copy_120 (k : Int) i v3 v4 n K m 0 s := by
  refine lp2 (L_X12_copy_120 (k : Int) i v3 v4 n K) (fun a t => 0 ≤ a ∧ a ≤ n ∧ (∀ j : Nat, (j : Int) < a → t 73 j = s 72 (60 * k + (i.toNat + j))) ∧ Same (fun a _ => a = 73) s t) (fun a _ => (n - a).toNat) ?_ 0 s ⟨by omega, by omega, fun j hj => by omega, Same.rfl'⟩
  intro m a t ⟨h0, h1, h2, h3⟩ ih
  unfold L_X12_copy_120
  refine ⟨fun hc => h t (fun j hj => h2 j (by omega)) h3, fun hc => ?_⟩
  rw [w32_of (z := 60 * (k : Int)) (by omega) (by omega), w32_of (z := 60 * (k : Int) + i) (by omega) (by omega), w32_of (z := 60 * (k : Int) + i + a) (by omega) (by omega)]
  refine ⟨⟨by omega, by omega⟩, ⟨by omega, by omega⟩, fun s4 e4 => ?_⟩
  subst e4
  rw [w32_of (by omega) (by omega)]
  refine ih _ _ ⟨by omega, by omega, fun j hj => ?_, h3.up rfl⟩ (by omega)
  by_cases e : j = a.toNat
  · rw [e, up_at, h3 72 _ (by omega)]
    congr 1
    omega
  · rw [up_j e]
    exact h2 j (by omega)
theorem T_mcopy2 {k : Nat} {i n : Int} {s : Sto} {K : Sto → Prop} (hk : k < 4) (hi : 0 ≤ i) (hn : 0 ≤ n) (hin : i + n ≤ 60) (h : ∀ t, (∀ a : Nat, (a : Int) < n → t 72 (60 * k + (i.toNat + a)) = s 73 a) → Same (fun a b => a = 72 ∧ (60 * k + i.toNat ≤ b ∧ b < 60 * k + i.toNat + n.toNat)) s t → K t) : ∃ m, L_X12_copy_157 (k : Int) i n K m 0 s := by
  refine lp2 (L_X12_copy_157 (k : Int) i n K) (fun a t => 0 ≤ a ∧ a ≤ n ∧ (∀ j : Nat, (j : Int) < a → t 72 (60 * k + (i.toNat + j)) = s 73 j) ∧ Same (fun a b => a = 72 ∧ (60 * k + i.toNat ≤ b ∧ b < 60 * k + i.toNat + n.toNat)) s t) (fun a _ => (n - a).toNat) ?_ 0 s ⟨by omega, by omega, fun j hj => by omega, Same.rfl'⟩
  intro m a t ⟨h0, h1, h2, h3⟩ ih
  unfold L_X12_copy_157
  refine ⟨fun hc => h t (fun j hj => h2 j (by omega)) h3, fun hc => ?_⟩
  rw [w32_of (z := 60 * (k : Int)) (by omega) (by omega), w32_of (z := 60 * (k : Int) + i) (by omega) (by omega), w32_of (z := 60 * (k : Int) + i + a) (by omega) (by omega)]
  refine ⟨⟨by omega, by omega⟩, ⟨by omega, by omega⟩, fun s4 e4 => ?_⟩
  subst e4
  have e9 : (60 * (k : Int) + i + a).toNat = 60 * k + (i.toNat + a.toNat) := by omega
  rw [w32_of (by omega) (by omega), e9]
  refine ih _ _ ⟨by omega, by omega, fun j hj => ?_, h3.up ⟨rfl, by omega, by omega⟩⟩ (by omega)
  by_cases e : j = a.toNat
  · rw [e, up_at, h3 73 _ (by omega)]
  · rw [up_j (by omega)]
    exact h2 j (by omega)
theorem hasRun_0 {o : Nat} {i n : Int} {s : Sto} (hi : r32 i) (h0 : 0 ≤ s o 1 ∧ s o 1 ≤ 60) : F_X7_hasRun o i n s = 0 ↔ ¬ (0 ≤ i ∧ 0 ≤ n ∧ i + n ≤ s o 1) := by
  unfold F_X7_hasRun
  unfold r32 at hi
  split
  · exact ⟨fun _ => by omega, fun _ => rfl⟩
  · split
    · exact ⟨fun _ => by omega, fun _ => rfl⟩
    · split
      · exact ⟨fun _ => by omega, fun _ => rfl⟩
      · rw [w32_of (by omega) (by omega)]
        split
        · exact ⟨fun _ => by omega, fun _ => rfl⟩
        · exact ⟨fun q => by omega, fun q => by omega⟩
