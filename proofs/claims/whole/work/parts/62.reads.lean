/-! ===== what both sides read out of a text is the same ===== -/
theorem vS_cg {b c : Nat → Int} : ∀ k : Nat, (∀ j, j < k → b j = c j) → vS b k = vS c k := by
  intro k
  induction k with
  | zero => intro _; rfl
  | succ k ih =>
    intro h
    unfold vS
    rw [ih (fun j hj => h j (by omega)), h k (by omega)]
theorem vOk_cg {b c : Nat → Int} {k n : Nat} (h : ∀ j, j < n → b j = c j) (hk : k < n) : vOk b k ↔ vOk c k := by
  unfold vOk vRo vWi vRs
  rw [vS_cg k (fun j hj => h j (by omega)), h k hk]
theorem ValleyOf_cg {b c : Nat → Int} {n : Nat} {f cs wd : Int} {w : Nat → Int} (h : ∀ j, j < n → b j = c j) (hv : ValleyOf b n f cs wd w) : ValleyOf c n f cs wd w := by
  have e := vS_cg n h
  have e1 : vRo b n = vRo c n := by unfold vRo; rw [e]
  have e2 : vWi b n = vWi c n := by unfold vWi; rw [e]
  have e3 : vCe b n = vCe c n := by unfold vCe; rw [e]
  rcases hv with ⟨h1, h2, h3, h4, h5, h6⟩ | ⟨h1, h2, h3, h4, h5⟩ | ⟨i, h1, h2, h3, h4, h5, h6⟩
  · refine Or.inl ⟨h1, fun i hi => (vOk_cg h hi).mp (h2 i hi), by rw [← e1, ← e2]; exact h3, by rw [← e3]; exact h4, by rw [← e1]; exact h5, fun i hi q => ?_⟩
    have e4 : vCe b i = vCe c i := by unfold vCe; rw [vS_cg i (fun j hj => h j (by omega))]
    rw [← e4, ← h i hi]
    exact h6 i hi (by rw [h i hi]; exact q)
  · exact Or.inr (Or.inl ⟨h1, fun i hi => (vOk_cg h hi).mp (h2 i hi), by rw [← e1, ← e2]; exact h3, h4, h5⟩)
  · exact Or.inr (Or.inr ⟨i, h1, h2, fun q => h3 ((vOk_cg h h1).mpr q), fun j hj => (vOk_cg h (by omega)).mp (h4 j hj), h5, h6⟩)
theorem ThingsOf_cg {b c : Nat → Int} {n : Nat} {f nt : Int} {st tk kd' : Nat → Int} (h : ∀ j, j < n → b j = c j) (hv : ThingsOf b n f nt st tk kd') : ThingsOf c n f nt st tk kd' := by
  rcases hv with ⟨h1, h2, h3, h4, h5⟩ | ⟨h1, h2, h3, h4⟩ | ⟨i, h1, h2, h3, h4, h5⟩
  · refine Or.inl ⟨h1, h2, fun i hi => by rw [← h i hi]; exact h3 i hi, h4, fun t ht => ?_⟩
    have := h5 t ht
    unfold tSt at this ⊢
    rw [← h (5 * t) (by omega), ← h (5 * t + 1) (by omega), ← h (5 * t + 2) (by omega), ← h (5 * t + 3) (by omega)]
    exact this
  · exact Or.inr (Or.inl ⟨h1, h2, fun i hi => by rw [← h i hi]; exact h3 i hi, h4⟩)
  · exact Or.inr (Or.inr ⟨i, h1, h2, by rw [← h i h1]; exact h3, fun j hj => by rw [← h j (by omega)]; exact h4 j hj, h5⟩)
theorem WindOf_cg {b c : Nat → Int} {n : Nat} {f : Int} {w : Nat → Int} (h : ∀ j, j < n → b j = c j) (hv : WindOf b n f w) : WindOf c n f w := by
  rcases hv with ⟨h1, h2, h3, h4⟩ | ⟨i, h1, h2, h3, h4, h5⟩
  · exact Or.inl ⟨h1, fun i hi => by rw [← h i hi]; exact h2 i hi, fun i hi => by rw [← h i hi]; exact h3 i hi, h4⟩
  · exact Or.inr ⟨i, h1, h2, by rw [← h i h1]; exact h3, fun j hj => by rw [← h j (by omega)]; exact h4 j hj, h5⟩
/-- what a valley's numbers are -/
theorem ValleyOf_num {b : Nat → Int} {n : Nat} {f cs wd : Int} {w : Nat → Int} (hn : n ≤ 41) (hv : ValleyOf b n f cs wd w) : (0 ≤ cs ∧ cs ≤ 36) ∧ (0 ≤ wd ∧ wd ≤ 6) ∧ (0 < cs → 0 < wd) ∧ ∃ q : Int, cs = q * wd := by
  rcases hv with ⟨h1, h2, h3, h4, h5, h6⟩ | ⟨h1, h2, h3, h4, h5⟩ | ⟨i, h1, h2, h3, h4, h5, h6⟩
  · obtain ⟨i1, i2, i3, i4, i5, i6, i7, ⟨q, i8, i8'⟩, i9⟩ := vInv n h2
    by_cases c : vWi b n = 0
    · rw [if_pos c] at i4
      have e7 := i7 c
      have hR : vRs b n = 0 := i2.mpr c
      rw [hR] at i5
      rw [h4, h5]
      refine ⟨by omega, by omega, fun q => by omega, 1, by omega⟩
    · rw [if_neg c] at i4
      rcases h3 with h3 | ⟨h3, h3'⟩
      · exfalso
        rw [h3] at c
        exact c rfl
      · have ew : vWi b n = vRo b n := by omega
        rw [ew] at i8
        have h66 : vRs b n ≠ 6 := fun w => h3 (i6 w)
        rw [h4, h5]
        refine ⟨⟨by omega, by omega⟩, by omega, fun _ => by omega, q + 1, ?_⟩
        rw [Int.add_mul]; omega
  · exact ⟨by omega, by omega, by omega, 0, by omega⟩
  · exact ⟨by omega, by omega, by omega, 0, by omega⟩
theorem beside_w {u : Sto} {wd : Int} {c way : Nat} (h8 : u 69 8 = wd) (hc : c < 36) (hwd : 1 ≤ wd ∧ wd ≤ 6) : F_X12_beside (c : Int) (way : Int) u = (if (way : Int) = 0 then (if (c : Int) < wd then (-1) else (if (c : Int) - wd = (-1) then (c : Int) - wd else (if u 76 ((c : Int) - wd).toNat = 1 then (-1) else (c : Int) - wd))) else (if (way : Int) = 1 then (if ((c : Int) + 1) % wd ≤ 0 then (-1) else (if (c : Int) + 1 = (-1) then (c : Int) + 1 else (if u 76 ((c : Int) + 1).toNat = 1 then (-1) else (c : Int) + 1))) else (if (way : Int) = 2 then (if u 69 7 ≤ (c : Int) + wd then (-1) else (if (c : Int) + wd = (-1) then (c : Int) + wd else (if u 76 ((c : Int) + wd).toNat = 1 then (-1) else (c : Int) + wd))) else (if (c : Int) % wd ≤ 0 then (-1) else (if (c : Int) - 1 = (-1) then (c : Int) - 1 else (if u 76 ((c : Int) - 1).toNat = 1 then (-1) else (c : Int) - 1)))))) ∧
    (((way : Int) = 0 → ((c : Int) < wd → True) ∧ (¬ (c : Int) < wd → inb ((c : Int) - wd) 36)) → ((way : Int) = 1 → (¬ ((c : Int) + 1) % wd ≤ 0 → inb ((c : Int) + 1) 36)) → ((way : Int) = 2 → (¬ u 69 7 ≤ (c : Int) + wd → inb ((c : Int) + wd) 36)) → (¬ (way : Int) = 0 → ¬ (way : Int) = 1 → ¬ (way : Int) = 2 → (¬ (c : Int) % wd ≤ 0 → inb ((c : Int) - 1) 36)) → O_X12_beside (c : Int) (way : Int) u) := by
  have n1 := Int.emod_nonneg ((c : Int) + 1) (show wd ≠ 0 by omega)
  have n2 := Int.emod_nonneg (c : Int) (show wd ≠ 0 by omega)
  have l1 := Int.emod_lt_of_pos ((c : Int) + 1) (show 0 < wd by omega)
  have l2 := Int.emod_lt_of_pos (c : Int) (show 0 < wd by omega)
  have e1 : w32 ((c : Int) - wd) = (c : Int) - wd := w32_of (by omega) (by omega)
  have e5 : w32 (((c : Int) + 1) % wd) = ((c : Int) + 1) % wd := by clear e1; exact w32_of (by omega) (by omega)
  have e6 : w32 ((c : Int) % wd) = (c : Int) % wd := by clear e1 e5; exact w32_of (by omega) (by omega)
  have e2 : w32 ((c : Int) + 1) = (c : Int) + 1 := by clear e1 e5 e6 n1 n2 l1 l2; exact w32_of (by omega) (by omega)
  have e3 : w32 ((c : Int) + wd) = (c : Int) + wd := by clear e1 e5 e6 n1 n2 l1 l2 e2; exact w32_of (by omega) (by omega)
  have e4 : w32 ((c : Int) - 1) = (c : Int) - 1 := by clear e1 e5 e6 n1 n2 l1 l2 e2 e3; exact w32_of (by omega) (by omega)
  have m1 : ((c : Int) + 1).tmod wd = ((c : Int) + 1) % wd := Int.tmod_eq_emod_of_nonneg (by clear e1 e5 e6 n1 n2 l1 l2 e2 e3 e4; omega)
  have m2 : (c : Int).tmod wd = (c : Int) % wd := Int.tmod_eq_emod_of_nonneg (by clear e1 e5 e6 n1 n2 l1 l2 e2 e3 e4; omega)
  have hz : wd ≠ 0 := by clear e1 e5 e6 n1 n2 l1 l2 e2 e3 e4 m1 m2; omega
  unfold F_X12_beside O_X12_beside
  rw [h8, e2, e1, e3, e4, m1, m2, e5, e6]
  refine ⟨rfl, fun q1 q2 q3 q4 => ⟨fun c0 => ⟨fun _ => trivial, fun w => ⟨fun _ => trivial, fun _ => ⟨(q1 c0).2 w, trivial⟩⟩⟩, fun c0 => ⟨fun c1 => ⟨hz, fun _ => trivial, fun w => ⟨fun _ => trivial, fun _ => ⟨q2 c1 w, trivial⟩⟩⟩, fun c1 => ⟨fun c2 => ⟨fun _ => trivial, fun w => ⟨fun _ => trivial, fun _ => ⟨q3 c2 w, trivial⟩⟩⟩, fun c2 => ⟨hz, fun _ => trivial, fun w => ⟨fun _ => trivial, fun _ => ⟨q4 c0 c1 c2 w, trivial⟩⟩⟩⟩⟩⟩⟩
theorem mod_step {cs wd q : Int} {c : Nat} (hwd : 1 ≤ wd ∧ wd ≤ 6) (hq : cs = q * wd) (hc : (c : Int) < cs) : (((c : Int) + 1) % wd ≤ 0 ↔ wd - 1 ≤ (c : Int) % wd) ∧ (¬ ((c : Int) + 1) % wd ≤ 0 → (c : Int) + 1 < cs) ∧ (¬ (c : Int) % wd ≤ 0 → 1 ≤ (c : Int)) := by
  have h6 : wd = 1 ∨ wd = 2 ∨ wd = 3 ∨ wd = 4 ∨ wd = 5 ∨ wd = 6 := by omega
  rcases h6 with e | e | e | e | e | e <;> rw [e] at hq ⊢ <;> omega
theorem besides {u : Sto} {cs wd : Int} {op : Nat → Int} {c way : Nat} (h7 : u 69 7 = cs) (h8 : u 69 8 = wd) (hop : ∀ d : Nat, (d : Int) < cs → u 76 d = 1 - op d) (hcs : 0 ≤ cs ∧ cs ≤ 36) (hwd : 0 ≤ wd ∧ wd ≤ 6) (hp : 0 < cs → 0 < wd) (hq : ∃ q : Int, cs = q * wd) (hc : (c : Int) < cs) (hw : way < 4) : F_X12_beside (c : Int) (way : Int) u = lkN cs op wd c way ∧ O_X12_beside (c : Int) (way : Int) u := by
  obtain ⟨q, hq⟩ := hq
  have hwp : 1 ≤ wd ∧ wd ≤ 6 := ⟨hp (by omega), hwd.2⟩
  obtain ⟨b1, b2⟩ := beside_w (way := way) h8 (by omega : c < 36) hwp
  obtain ⟨s1, s2, s3⟩ := mod_step hwp hq hc
  have hq' := hq
  clear hq
  have gC : lkC wd c = (c : Int) % wd := by unfold lkC; rw [if_neg (by omega)]; exact Int.tmod_eq_emod_of_nonneg (by omega)
  -- the end of a link
  have fin : ∀ to : Int, 0 ≤ to → to < cs → (if to = -1 then to else if u 76 to.toNat = 1 then -1 else to) = (if to < 0 ∨ cs ≤ to ∨ op to.toNat = 0 then -1 else to) ∧ inb to 36 := by
    intro to t0 t1
    have := hop to.toNat (by omega)
    rw [if_neg (by omega), this]
    refine ⟨?_, by omega, by omega⟩
    by_cases w : op to.toNat = 0
    · rw [if_pos (by omega), if_pos (Or.inr (Or.inr w))]
    · rw [if_neg (by omega), if_neg (by omega)]
  have hcs2 : ¬ cs ≤ (c : Int) := by omega
  unfold lkN lnk
  rw [b1, h7, if_neg hcs2]
  rw [h7] at b2
  have hw4 : way = 0 ∨ way = 1 ∨ way = 2 ∨ way = 3 := by omega
  have g1 : lkTo wd c 0 = (c : Int) - wd := rfl
  have g2 : lkTo wd c 1 = (c : Int) + 1 := rfl
  have g3 : lkTo wd c 2 = (c : Int) + wd := rfl
  have g4 : lkTo wd c 3 = (c : Int) - 1 := rfl
  rcases hw4 with rfl | rfl | rfl | rfl
  · have f1 : lkF wd c 0 = 1 := rfl
    rw [if_pos (show ((0 : Nat) : Int) = 0 from rfl), f1, if_neg (show ¬ (1 : Int) = 0 by decide), g1]
    refine ⟨?_, b2 (fun _ => ⟨fun _ => trivial, fun w => (fin _ (by omega) (by omega)).2⟩) (fun w => absurd w (by decide)) (fun w => absurd w (by decide)) (fun w => absurd rfl w)⟩
    by_cases q1 : (c : Int) < wd
    · rw [if_pos q1, if_pos (Or.inl (by omega))]
    · rw [if_neg q1]
      exact (fin ((c : Int) - wd) (by omega) (by omega)).1
  · have f1 : lkF wd c 1 = if wd - 1 ≤ (c : Int) % wd then 0 else 1 := by unfold lkF; rw [gC]; rfl
    rw [if_neg (show ¬ ((1 : Nat) : Int) = 0 by decide), if_pos (show ((1 : Nat) : Int) = 1 from rfl), f1, g2]
    refine ⟨?_, b2 (fun w => absurd w (by decide)) (fun _ w => (fin _ (by omega) (s2 w)).2) (fun w => absurd w (by decide)) (fun _ w => absurd rfl w)⟩
    by_cases q1 : ((c : Int) + 1) % wd ≤ 0
    · rw [if_pos q1, if_pos (s1.mp q1), if_pos (show (0 : Int) = 0 from rfl)]
    · rw [if_neg q1, if_neg (fun w => q1 (s1.mpr w)), if_neg (show ¬ (1 : Int) = 0 by decide)]
      exact (fin ((c : Int) + 1) (by omega) (s2 q1)).1
  · have f1 : lkF wd c 2 = 1 := rfl
    rw [if_neg (show ¬ ((2 : Nat) : Int) = 0 by decide), if_neg (show ¬ ((2 : Nat) : Int) = 1 by decide), if_pos (show ((2 : Nat) : Int) = 2 from rfl), f1, if_neg (show ¬ (1 : Int) = 0 by decide), g3]
    refine ⟨?_, b2 (fun w => absurd w (by decide)) (fun w => absurd w (by decide)) (fun _ w => (fin _ (by omega) (by omega)).2) (fun _ _ w => absurd rfl w)⟩
    by_cases q1 : cs ≤ (c : Int) + wd
    · rw [if_pos q1, if_pos (Or.inr (Or.inl q1))]
    · rw [if_neg q1]
      exact (fin ((c : Int) + wd) (by omega) (by omega)).1
  · have f1 : lkF wd c 3 = if (c : Int) % wd ≤ 0 then 0 else 1 := by unfold lkF; rw [gC]; rfl
    rw [if_neg (show ¬ ((3 : Nat) : Int) = 0 by decide), if_neg (show ¬ ((3 : Nat) : Int) = 1 by decide), if_neg (show ¬ ((3 : Nat) : Int) = 2 by decide), f1, g4]
    refine ⟨?_, b2 (fun w => absurd w (by decide)) (fun w => absurd w (by decide)) (fun w => absurd w (by decide)) (fun _ _ _ w => (fin _ (by have := s3 w; omega) (by omega)).2)⟩
    by_cases q1 : (c : Int) % wd ≤ 0
    · rw [if_pos q1, if_pos q1, if_pos (show (0 : Int) = 0 from rfl)]
    · rw [if_neg q1, if_neg q1, if_neg (show ¬ (1 : Int) = 0 by decide)]
      exact (fin ((c : Int) - 1) (by have := s3 q1; omega) (by omega)).1
