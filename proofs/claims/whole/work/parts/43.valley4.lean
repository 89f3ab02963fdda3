def VFl (b : Nat → Int) (n : Nat) (f : Int) : Prop := (f = -1 ∧ (∀ i, i < n → vOk b i) ∧ (n = 0 ∨ (vRo b n ≠ 0 ∧ vWi b n ≤ vRo b n))) ∨ (f = (n : Int) ∧ (∀ i, i < n → vOk b i) ∧ ¬ (n = 0 ∨ (vRo b n ≠ 0 ∧ vWi b n ≤ vRo b n))) ∨ (∃ i, i < n ∧ f = (i : Int) ∧ ¬ vOk b i ∧ (∀ j, j < i → vOk b j))
theorem T_cfault {p n : Nat} {s : Sto} {Q : Int → Sto → Prop} (hn : s p 1 = n) (h41 : n ≤ 41) (hal : n ≤ al (p + 1)) (h : ∀ f, VFl (s (p + 1)) n f → Q f s) : P_X10_firstFault p s Q := by
  unfold P_X10_firstFault
  refine T_cfault0 hn h41 hal (fun i2 x6 e6 => ?_) (fun i h1 h2 h3 => ?_)
  · obtain ⟨a1, a2, a3, a4, a5, a6, a7, -, a9⟩ := vInv n i2
    rw [hn]
    by_cases c : vRo (s (p + 1)) n ≠ 0 ∧ vWi (s (p + 1)) n ≤ vRo (s (p + 1)) n
    · rw [if_neg (by omega), if_neg (by omega)] at e6
      exact ⟨fun w => by omega, fun _ => h _ (Or.inl ⟨rfl, i2, Or.inr c⟩)⟩
    · have e0 : x6 = 0 := by
        rw [e6]
        split
        · rfl
        · split
          · rfl
          · omega
      refine ⟨fun _ => ⟨fun w => h _ (Or.inl ⟨rfl, i2, Or.inl (by omega)⟩), fun w => h _ (Or.inr (Or.inl ⟨rfl, i2, ?_⟩))⟩, fun w => absurd e0 w⟩
      rintro (v | v)
      · omega
      · exact c v
  · have z := h i (Or.inr (Or.inr ⟨i, h1, rfl, h2, h3⟩))
    exact ⟨z, z, z⟩
/-- the class's valley is what the text b of n signs tells -/
def CVal (t : Sto) (b : Nat → Int) (n : Nat) (f : Int) : Prop := ∃ wd : Int, ValleyOf b n f (t 3 0) wd (fun c => 1 - t 4 c) ∧ (∀ c : Nat, (c : Int) < t 3 0 → t 4 c = 0 ∨ t 4 c = 1) ∧ (0 < t 3 0 → ∀ c way : Nat, c < 36 → way < 4 → t 5 (4 * c + way) = lkN (t 3 0) (t 4) wd c way)
theorem T_clinks {f wd : Int} {s : Sto} {K : Sto → Prop} (hw : 0 ≤ wd ∧ wd ≤ 36) (h3 : s 3 0 ≤ 36) (h : ∀ t, (∀ c way : Nat, c < 36 → way < 4 → t 5 (4 * c + way) = lkN (s 3 0) (s 4) wd c way) → Same (fun a _ => a = 5) s t → K t) : ∃ m, L_X10_reread_26 f wd K m 0 s := by
  refine lp2 (L_X10_reread_26 f wd K) (fun i t => ∃ k : Nat, i = k ∧ k ≤ 36 ∧ (∀ c way : Nat, c < k → way < 4 → t 5 (4 * c + way) = lkN (s 3 0) (s 4) wd c way) ∧ Same (fun a _ => a = 5) s t) (fun i _ => (36 - i).toNat) ?_ 0 s ⟨0, rfl, by omega, fun c way hc => absurd hc (Nat.not_lt_zero c), Same.rfl'⟩
  rintro m i t ⟨k, rfl, i1, i2, i3⟩ ih
  unfold L_X10_reread_26
  refine ⟨fun q => ?_, fun q => ?_⟩
  · have e : k = 36 := by omega
    subst e
    exact h t i2 i3
  · have e3 : t 3 0 = s 3 0 := i3 _ _ (by omega)
    have e4 : t 4 = s 4 := funext (fun j => i3 4 j (by omega))
    obtain ⟨l1, l2⟩ := lk4 (c := k) (s := t) (by omega) hw (by rw [e3]; exact h3)
    rw [e3, e4] at l1
    refine ⟨l2, fun s3 es3 => ?_⟩
    rw [l1] at es3
    rw [w32_of (by omega) (by omega)]
    refine ih _ _ ⟨k + 1, by omega, by omega, fun c way hc hway => ?_, by rw [es3]; exact (((i3.up rfl).up rfl).up rfl).up rfl⟩ (by omega)
    by_cases ec : c = k
    · subst ec
      rw [es3]
      have h4 : way = 0 ∨ way = 1 ∨ way = 2 ∨ way = 3 := by omega
      rcases h4 with rfl | rfl | rfl | rfl
      · rw [up_j (by omega), up_j (by omega), up_j (by omega), up_at]
      · rw [up_j (by omega), up_j (by omega), up_at]
      · rw [up_j (by omega), up_at]
      · rw [up_at]
    · rw [es3, up_j (by omega), up_j (by omega), up_j (by omega), up_j (by omega)]
      exact i2 c way (by omega) hway
theorem T_creread {n : Nat} {s : Sto} {Q : Int → Sto → Prop} (hn : s 30 1 = n) (h41 : n ≤ 41) (h : ∀ f t, CVal t (s 31) n f → Same (fun a b => (a = 3 ∧ b = 0) ∨ a = 4 ∨ a = 5) s t → Q f t) : P_X10_reread 30 s Q := by
  have a31 : al (30 + 1) = 41 := rfl
  unfold P_X10_reread
  refine T_cfault hn h41 (by rw [a31]; exact h41) (fun f hf s3 e3 => ?_)
  have hS3 : Same (fun a b => (a = 3 ∧ b = 0) ∨ a = 4 ∨ a = 5) s s3 := by rw [e3]; exact Same.rfl'.up (Or.inl ⟨rfl, rfl⟩)
  have h30 : s3 3 0 = 0 := by rw [e3, up_at]
  have hb : s3 31 = s 31 := funext (fun j => hS3 31 j (by omega))
  refine ⟨fun c => ?_, fun c => ?_⟩
  · have hf1 : (∀ i, i < n → vOk (s 31) i) ∧ (n = 0 ∨ (vRo (s 31) n ≠ 0 ∧ vWi (s 31) n ≤ vRo (s 31) n)) := by
      rcases hf with w | w | ⟨i, w1, w2, w3, w4⟩
      · exact w.2
      · omega
      · omega
    obtain ⟨a1, a2, a3, a4, a5, a6, a7, -, a9⟩ := vInv n hf1.1
    unfold P_X10_fill
    refine T_cfill (by omega) (by rw [hS3 _ _ (by omega), hn]) h41 (by rw [a31]; exact h41) h30 (by rw [show s3 (30 + 1) = s 31 from hb]; exact hf1.1) (fun t t1 t2 t3 => ?_)
    rw [show s3 (30 + 1) = s 31 from hb] at t1 t2 ⊢
    have hwd : ∀ x : Int, x = (if vWi (s 31) n = 0 then vCe (s 31) n else vWi (s 31) n) → x = vRo (s 31) n := by
      intro x ex
      rw [ex]
      split
      · next w => exact a7 w
      · next w =>
        rw [if_neg w] at a4
        rcases hf1.2 with v | v
        · have z : vWi (s 31) n = 0 := by rw [v]; rfl
          omega
        · omega
    have ht36 : t 3 0 ≤ 36 := by
      rw [t1]
      split at a4 <;> omega
    have hro : 0 ≤ vRo (s 31) n ∧ vRo (s 31) n ≤ 36 := by
      split at a4 <;> omega
    have fin : ∃ n8, L_X10_reread_26 f (vRo (s 31) n) (fun s7 => Q f s7) n8 0 t := by
      refine T_clinks hro ht36 (fun u u1 u2 => ?_)
      have e3' : u 3 0 = t 3 0 := u2 _ _ (by omega)
      have e4' : u 4 = t 4 := funext (fun j => u2 4 j (by omega))
      refine h f u ⟨vRo (s 31) n, Or.inl ⟨c, hf1.1, hf1.2, by rw [e3', t1], rfl, fun i hi hc => ?_⟩, fun q hq => ?_, ?_⟩ ?_
      · dsimp only
        rw [e4', t2 i hi hc]
        have z := hf1.1 i hi
        rcases z with z | z
        · exact absurd z.1 hc
        · rcases z.1 with z | z
          · rw [if_pos z, if_neg (by omega)]; rfl
          · rw [if_neg (by omega), if_pos z]; rfl
      · rw [e3', t1] at hq
        obtain ⟨i, q1, q2, q3⟩ := vSurj n q hq
        have z := t2 i q1 q2
        rw [q3, Int.toNat_natCast] at z
        rw [e4', z]
        split
        · exact Or.inr rfl
        · exact Or.inl rfl
      · rw [e3', e4']; exact fun _ => u1
      · exact (hS3.trans (t3.mono (fun a b q => by omega))).trans (u2.mono (fun a b q => Or.inr (Or.inr q)))
    refine ⟨fun w => ?_, fun w => ?_⟩
    · rw [hwd (t 3 0) (by rw [if_pos w, t1])]
      exact fin
    · rw [hwd (vWi (s 31) n) (by rw [if_neg w])]
      exact fin
  · refine T_clinks (by omega) (by omega) (fun u u1 u2 => ?_)
    have e3' : u 3 0 = 0 := by rw [u2 _ _ (by omega), h30]
    have e4' : u 4 = s3 4 := funext (fun j => u2 4 j (by omega))
    refine h f u ⟨0, ?_, fun q hq => by omega, ?_⟩ (hS3.trans (u2.mono (fun a b q => Or.inr (Or.inr q))))
    · rw [e3']
      rcases hf with w | w | ⟨i, w1, w2, w3, w4⟩
      · exact absurd w.1 c
      · exact Or.inr (Or.inl ⟨w.1, w.2.1, w.2.2, rfl, rfl⟩)
      · exact Or.inr (Or.inr ⟨i, w1, w2, w3, w4, rfl, rfl⟩)
    · rw [e3', e4']
      rw [h30] at u1
      exact fun _ => u1
