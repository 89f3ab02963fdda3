/-! ===== mathematics over the store: what a change leaves alone ===== -/
def Same (D : Nat → Nat → Prop) (s t : Sto) : Prop := ∀ a b, ¬ D a b → t a b = s a b
theorem Same.rfl' {D : Nat → Nat → Prop} {s : Sto} : Same D s s := fun _ _ _ => rfl
theorem Same.trans {D : Nat → Nat → Prop} {s t u : Sto} (h : Same D s t) (g : Same D t u) : Same D s u := fun a b hd => (g a b hd).trans (h a b hd)
theorem Same.mono {D E : Nat → Nat → Prop} {s t : Sto} (h : Same D s t) (hE : ∀ a b, D a b → E a b) : Same E s t := fun a b hd => h a b (fun q => hd (hE a b q))
theorem Same.up {D : Nat → Nat → Prop} {s t : Sto} {c j : Nat} {z : Int} (h : Same D s t) (hd : D c j) : Same D s (up t c j z) := fun a b hn => by
  rw [← h a b hn]
  show (if a = c ∧ b = j then z else t a b) = t a b
  rw [if_neg (fun q => hn (by rw [q.1, q.2]; exact hd))]
theorem up_at {s : Sto} {c j : Nat} {z : Int} : up s c j z c j = z := by unfold up; rw [if_pos ⟨rfl, rfl⟩]
theorem up_c {s : Sto} {c j a b : Nat} {z : Int} (h : a ≠ c) : up s c j z a b = s a b := by unfold up; rw [if_neg (fun q => h q.1)]
theorem up_j {s : Sto} {c j a b : Nat} {z : Int} (h : b ≠ j) : up s c j z a b = s a b := by unfold up; rw [if_neg (fun q => h q.2)]
theorem w32_of {z : Int} (h1 : -2147483648 ≤ z) (h2 : z < 2147483648) : w32 z = z := w32_id ⟨h1, h2⟩
theorem w64_of {z : Int} (h1 : -9223372036854775808 ≤ z) (h2 : z < 9223372036854775808) : w64 z = z := w64_id ⟨h1, h2⟩
/-! ===== Arrays.fill ===== -/
theorem T_fill {p0 : Nat} {v : Int} {s : Sto} {Q : Int → Sto → Prop} (h : ∀ t, (∀ j, j < al p0 → t p0 j = v) → Same (fun a _ => a = p0) s t → Q 0 t) : P_J7_fill_53178 p0 v s Q := by
  unfold P_J7_fill_53178
  intro x1 hx1
  have hr := al_r p0
  unfold r32 at hr
  refine lp2 (L_J7_fill_53178_5 p0 v x1 (fun s2 => Q 0 s2)) (fun i t => 0 ≤ i ∧ i ≤ x1 ∧ (∀ j : Nat, (j : Int) < i → t p0 j = v) ∧ Same (fun a _ => a = p0) s t) (fun i _ => (x1 - i).toNat) ?_ 0 s ⟨by omega, by omega, fun j hj => by omega, Same.rfl'⟩
  intro n i t ⟨h0, h1, h2, h3⟩ ih
  unfold L_J7_fill_53178_5
  refine ⟨fun hc => ?_, fun hc => ⟨⟨h0, by omega⟩, fun s3 hs3 => ?_⟩⟩
  · exact h t (fun j hj => h2 j (by omega)) h3
  · subst hs3
    rw [w32_of (by omega) (by omega)]
    refine ih _ _ ⟨by omega, by omega, fun j hj => ?_, h3.up rfl⟩ (by omega)
    by_cases e : j = i.toNat
    · rw [e, up_at]
    · rw [up_j e]
      exact h2 j (by omega)
theorem T_fillL {p0 : Nat} {v : Int} {s : Sto} {Q : Int → Sto → Prop} (h : ∀ t, (∀ j, j < al p0 → t p0 j = v) → Same (fun a _ => a = p0) s t → Q 0 t) : P_J7_fill_d0a16 p0 v s Q := by
  unfold P_J7_fill_d0a16
  intro x1 hx1
  have hr := al_r p0
  unfold r32 at hr
  refine lp2 (L_J7_fill_d0a16_6 p0 v x1 (fun s2 => Q 0 s2)) (fun i t => 0 ≤ i ∧ i ≤ x1 ∧ (∀ j : Nat, (j : Int) < i → t p0 j = v) ∧ Same (fun a _ => a = p0) s t) (fun i _ => (x1 - i).toNat) ?_ 0 s ⟨by omega, by omega, fun j hj => by omega, Same.rfl'⟩
  intro n i t ⟨h0, h1, h2, h3⟩ ih
  unfold L_J7_fill_d0a16_6
  refine ⟨fun hc => ?_, fun hc => ⟨⟨h0, by omega⟩, fun s3 hs3 => ?_⟩⟩
  · exact h t (fun j hj => h2 j (by omega)) h3
  · subst hs3
    rw [w32_of (by omega) (by omega)]
    refine ih _ _ ⟨by omega, by omega, fun j hj => ?_, h3.up rfl⟩ (by omega)
    by_cases e : j = i.toNat
    · rw [e, up_at]
    · rw [up_j e]
      exact h2 j (by omega)
/-! ===== what the small questions answer ===== -/
theorem within_0 {v a b : Int} {s : Sto} : F_X11_within v a b s = 0 ↔ ¬ (a ≤ v ∧ v ≤ b) := by
  unfold F_X11_within
  split
  · constructor
    · intro _; omega
    · intro _; rfl
  · split
    · constructor
      · intro _; omega
      · intro _; rfl
    · constructor
      · intro q; omega
      · intro q; omega
theorem in_0 {v a b : Int} {s : Sto} : F_X12_in v a b s = 0 ↔ ¬ (a ≤ v ∧ v ≤ b) := by
  unfold F_X12_in
  split
  · constructor
    · intro _; omega
    · intro _; rfl
  · split
    · constructor
      · intro _; omega
      · intro _; rfl
    · constructor
      · intro q; omega
      · intro q; omega
theorem isSheet_0 {v : Int} {s : Sto} : F_X12_isSheet v s = 0 ↔ ¬ (0 ≤ v ∧ v ≤ 3) := by unfold F_X12_isSheet; exact in_0
theorem isText_0 {v : Int} {s : Sto} : F_X12_isText v s = 0 ↔ ¬ (0 ≤ v ∧ v ≤ 2) := by unfold F_X12_isText; exact in_0
theorem isStep_0 {v : Int} {s : Sto} : F_X12_isStep v s = 0 ↔ ¬ (0 ≤ v ∧ v ≤ 19) := by unfold F_X12_isStep; exact in_0
theorem isTwo_0 {v : Int} {s : Sto} : F_X12_isTwo v s = 0 ↔ ¬ (0 ≤ v ∧ v ≤ 1) := by unfold F_X12_isTwo; exact in_0
theorem isLost_0 {o : Nat} {s : Sto} : F_X7_isLost o s = 0 ↔ s o 0 ≠ -1 := by
  unfold F_X7_isLost
  split
  · constructor
    · intro q; omega
    · intro q; omega
  · constructor
    · intro _; assumption
    · intro _; rfl
theorem max_v {a b : Int} {s : Sto} : F_J9_max_7cf53 a b s = if a < b then b else a := by
  unfold F_J9_max_7cf53
  split <;> rfl
theorem min_v {a b : Int} {s : Sto} : F_J9_min_7cf53 a b s = if b < a then b else a := by
  unfold F_J9_min_7cf53
  split <;> rfl
theorem T_renew {o : Nat} {f n : Int} {s : Sto} {Q : Int → Sto → Prop} (hn : 0 ≤ n ∧ n ≤ 60) (h : ∀ t, t o 0 = f → t o 1 = n → (∀ j, j < al (o + 1) → t (o + 1) j = 0) → Same (fun a b => a = o + 1 ∨ (a = o ∧ (b = 0 ∨ b = 1))) s t → Q 0 t) : P_X7_renew o f n s Q := by
  unfold P_X7_renew
  intro s1 e1 s2 e2
  refine T_fill (fun t h1 h2 => ?_)
  have hm : F_J9_max_7cf53 0 (F_J9_min_7cf53 n 60 s1) s1 = n := by
    rw [max_v, min_v]
    split <;> split <;> omega
  rw [hm] at e2
  have hs : Same (fun a b => a = o + 1 ∨ (a = o ∧ (b = 0 ∨ b = 1))) s s2 := by
    rw [e2, e1]
    exact (Same.rfl'.up (Or.inr ⟨rfl, Or.inl rfl⟩)).up (Or.inr ⟨rfl, Or.inr rfl⟩)
  refine h t ?_ ?_ h1 (hs.trans (h2.mono (fun a b q => Or.inl q)))
  · rw [h2 o 0 (by omega), e2, up_j (by omega), e1, up_at]
  · rw [h2 o 1 (by omega), e2, up_at]
