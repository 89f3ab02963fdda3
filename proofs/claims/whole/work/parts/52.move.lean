/-! ===== the class plays a night: rings move and are blown ===== -/
def NtC (N : Sto) (p : Nat) (s : Sto) : Prop := s p 0 = N 0 0 ∧ s p 6 = N 0 6 ∧ s p 11 = N 0 11 ∧ s 3 0 = N 0 1 ∧ (∀ r : Nat, (r : Int) < N 0 0 → s (p + 1) r = N 1 r ∧ s (p + 2) r = N 2 r ∧ s (p + 3) r = N 3 r ∧ s (p + 4) r = N 4 r ∧ s (p + 5) r = N 5 r) ∧ (∀ t : Nat, (t : Int) < N 0 6 → s (p + 6) t = N 6 t ∧ s (p + 7) t = N 7 t ∧ s (p + 8) t = N 8 t) ∧ (∀ k, k < 20 → s (p + 9) k = N 9 k) ∧ (∀ c : Nat, (c : Int) < N 0 1 → s 4 c = N 10 c) ∧ (∀ i, i < 144 → s 5 i = N 11 i)
def live (N σ : Sto) (r : Nat) : Bool := decide (σ 1 r = 1 ∨ (σ 1 r = 0 ∧ N 1 r < 20))
def whm (N σ : Sto) (t : Nat) : Int := if σ 5 t = -1 then -1 else N 5 (σ 5 t).toNat
def bnB (σ : Sto) (t : Nat) : Bool := decide (σ 5 t ≠ -1)
def Ply (N : Sto) (o : Nat) (σ s : Sto) : Prop := (∀ r : Nat, (r : Int) < N 0 0 → s (o + 1) r = σ 1 r ∧ s (o + 2) r = σ 2 r ∧ s (o + 3) r = σ 3 r ∧ s (o + 4) r = σ 4 r) ∧ (∀ t : Nat, (t : Int) < N 0 6 → s (o + 5) t = σ 5 t ∧ s (o + 6) t = σ 6 t ∧ s (o + 7) t = whm N σ t) ∧ s o 8 = cntB (bnB σ) (nT N) ∧ s o 9 = σ 0 0 ∧ s o 10 = σ 0 1 ∧ s o 11 = cntB (live N σ) (nR N) ∧ (∀ c : Nat, c < 64 → (lb (s o 12) c = true ↔ ∃ t : Nat, (t : Int) < N 0 6 ∧ N 6 t = (c : Int)))
def DPl (o a b : Nat) : Prop := (o + 1 ≤ a ∧ a ≤ o + 7) ∨ (a = o ∧ 8 ≤ b ∧ b ≤ 12)
theorem NtC_cg {N s t : Sto} {p o : Nat} (ho : o = 16 ∨ o = 54) (hp : p = 6 ∨ p = 44) (h : NtC N p s) (hS : Same (DPl o) s t) : NtC N p t := by
  obtain ⟨h1, h2, h3, h4, h5, h6, h7, h8, h9⟩ := h
  have e : ∀ a b, a < 16 ∨ (44 ≤ a ∧ a < 54) → t a b = s a b := fun a b q => hS a b (by unfold DPl; omega)
  refine ⟨?_, ?_, ?_, ?_, fun r hr => ?_, fun x hx => ?_, fun k hk => ?_, fun c hc => ?_, fun i hi => ?_⟩
  · rw [e _ _ (by omega)]; exact h1
  · rw [e _ _ (by omega)]; exact h2
  · rw [e _ _ (by omega)]; exact h3
  · rw [e _ _ (by omega)]; exact h4
  · rw [e _ _ (by omega), e _ _ (by omega), e _ _ (by omega), e _ _ (by omega), e _ _ (by omega)]; exact h5 r hr
  · rw [e _ _ (by omega), e _ _ (by omega), e _ _ (by omega)]; exact h6 x hx
  · rw [e _ _ (by omega)]; exact h7 k hk
  · rw [e _ _ (by omega)]; exact h8 c hc
  · rw [e _ _ (by omega)]; exact h9 i hi
theorem cntB_upd {f g : Nat → Bool} {i : Nat} : ∀ n : Nat, i < n → (∀ j, j ≠ i → g j = f j) → cntB g n = cntB f n + (if g i = true then 1 else 0) - (if f i = true then 1 else 0) := by
  intro n
  induction n with
  | zero => intro h; exact absurd h (Nat.not_lt_zero i)
  | succ n ih =>
    intro h1 h2
    by_cases e : i = n
    · subst e
      have := cntB_cg (f := g) (g := f) i (fun j hj => h2 j (by omega))
      unfold cntB
      rw [this]
      omega
    · have := ih (by omega) h2
      unfold cntB
      rw [this, h2 n (fun q => e q.symm)]
      omega
theorem Ply_ring {N σ τ s t : Sto} {o r : Nat} (h : Ply N o σ s) (ho : o = 16 ∨ o = 54) (hr : (r : Int) < N 0 0) (hτ : ∀ a b, ¬ ((1 ≤ a ∧ a ≤ 4) ∧ b = r) → τ a b = σ a b) (h1 : t (o + 1) r = τ 1 r) (h2 : t (o + 2) r = τ 2 r) (h3 : t (o + 3) r = τ 3 r) (h4 : t (o + 4) r = τ 4 r) (hl : t o 11 = s o 11 + (if live N τ r = true then 1 else 0) - (if live N σ r = true then 1 else 0)) (hS : ∀ a b, ¬ ((o + 1 ≤ a ∧ a ≤ o + 4 ∧ b = r) ∨ (a = o ∧ b = 11)) → t a b = s a b) : Ply N o τ t := by
  obtain ⟨g1, g2, g3, g4, g5, g6, g7⟩ := h
  refine ⟨fun x hx => ?_, fun x hx => ?_, ?_, ?_, ?_, ?_, fun c hc => ?_⟩
  · by_cases e : x = r
    · rw [e]; exact ⟨h1, h2, h3, h4⟩
    · rw [hS _ _ (by omega), hS _ _ (by omega), hS _ _ (by omega), hS _ _ (by omega), hτ _ _ (by omega), hτ _ _ (by omega), hτ _ _ (by omega), hτ _ _ (by omega)]
      exact g1 x hx
  · have e5 : whm N τ x = whm N σ x := by unfold whm; rw [hτ 5 x (by omega)]
    rw [hS _ _ (by omega), hS _ _ (by omega), hS _ _ (by omega), hτ _ _ (by omega), hτ _ _ (by omega), e5]
    exact g2 x hx
  · rw [hS _ _ (by omega), g3]
    exact cntB_cg _ (fun i _ => by unfold bnB; rw [hτ 5 i (by omega)])
  · rw [hS _ _ (by omega), hτ _ _ (by omega), g4]
  · rw [hS _ _ (by omega), hτ _ _ (by omega), g5]
  · rw [hl, g6]
    exact (cntB_upd (nR N) (by unfold nR; omega) (fun j hj => by unfold live; rw [hτ 1 j (by omega)])).symm
  · rw [hS _ _ (by omega)]
    exact g7 c hc
theorem Ply_live {N σ s : Sto} {o r : Nat} (h : Ply N o σ s) (hN : NOk N) (hr : (r : Int) < N 0 0) (hl : live N σ r = true) : 1 ≤ s o 11 ∧ s o 11 ≤ 8 := by
  have h1 := cntB_rng (live N σ) (nR N)
  have h2 := hN.1
  rw [h.2.2.2.2.2.1]
  refine ⟨?_, by unfold nR at *; omega⟩
  rcases Int.lt_or_le (cntB (live N σ) (nR N)) 1 with q | q
  · have := (cntB_0 (nR N)).mp (show cntB (live N σ) (nR N) = 0 by omega) r (by unfold nR; omega)
    rw [hl] at this
    exact absurd this (by decide)
  · exact q
def tailP (o p1 r k : Nat) (s : Sto) (Q : Int → Sto → Prop) : Prop := (inb (r : Int) 8 ∧ (inb (r : Int) 8 ∧ ((w32 ((k : Int) - (s (p1 + 1) (r : Int).toNat)) < w32 ((s (o + 3) (r : Int).toNat) * (s p1 11)) → (inb (r : Int) 8 ∧ ((s (o + 3) (r : Int).toNat ≤ 9 → Q 0 s) ∧ (¬ s (o + 3) (r : Int).toNat ≤ 9 → (O_X6_settle o (r : Int) 4 s ∧ (∀ s13 : Sto, s13 = S_X6_settle o (r : Int) 4 s → Q 0 s13)))))) ∧ (¬ w32 ((k : Int) - (s (p1 + 1) (r : Int).toNat)) < w32 ((s (o + 3) (r : Int).toNat) * (s p1 11)) → (inb (r : Int) 8 ∧ (inb (r : Int) 8 ∧ (∀ s16 : Sto, s16 = up s (o + 3) (r : Int).toNat (w32 ((s (o + 3) (r : Int).toNat) + 1)) → (inb (r : Int) 8 ∧ ((s16 (o + 3) (r : Int).toNat ≤ 9 → Q 0 s16) ∧ (¬ s16 (o + 3) (r : Int).toNat ≤ 9 → (O_X6_settle o (r : Int) 4 s16 ∧ (∀ s20 : Sto, s20 = S_X6_settle o (r : Int) 4 s16 → Q 0 s20))))))))))))
theorem settle_v {o r : Nat} {z : Int} {s : Sto} (hv : 1 ≤ s o 11 ∧ s o 11 ≤ 8) : S_X6_settle o (r : Int) z s = up (up s (o + 1) r z) o 11 (s o 11 - 1) := by
  unfold S_X6_settle
  rw [Int.toNat_natCast, up_c (by omega), w32_of (by omega) (by omega)]
theorem T_tail {N s : Sto} {o p1 r k : Nat} {Q : Int → Sto → Prop} (ho : o = 16 ∨ o = 54) (hp : p1 = 6 ∨ p1 = 44) (hN : NOk N) (hC : NtC N p1 s) (hr : (r : Int) < N 0 0) (hk : k < 20) (h1 : s (o + 1) r = 1) (h3 : s (o + 3) r = 1 + ((k : Int) - 1 - N 1 r) / N 0 11) (h9 : s (o + 3) r ≤ 9) (hb : N 1 r < (k : Int)) (hv : 1 ≤ s o 11 ∧ s o 11 ≤ 8) (K : ∀ t, t (o + 1) r = (if 9 < wdt N k r then 4 else 1) → t (o + 3) r = wdt N k r → t o 11 = s o 11 + (if 9 < wdt N k r then -1 else 0) → Same (fun a b => ((a = o + 1 ∨ a = o + 3) ∧ b = r) ∨ (a = o ∧ b = 11)) s t → Q 0 t) : tailP o p1 r k s Q := by
  have hR := hN.1
  have hin : inb (r : Int) 8 := ⟨by omega, by omega⟩
  obtain ⟨g1, g2, g3⟩ := wdt_inc hN hb h3
  have hw := hN.2.2.1
  have hb0 := (hN.2.2.2.2.1 r hr).1
  have e1 : s (p1 + 1) r = N 1 r := (hC.2.2.2.2.1 r hr).1
  have hm : 0 ≤ s (o + 3) r * N 0 11 ∧ s (o + 3) r * N 0 11 ≤ 36 := by
    have h5 : N 0 11 = 1 ∨ N 0 11 = 2 ∨ N 0 11 = 3 ∨ N 0 11 = 4 := by omega
    rcases h5 with e | e | e | e <;> rw [e] <;> omega
  unfold tailP
  rw [Int.toNat_natCast, e1, hC.2.2.1, w32_of (z := (k : Int) - N 1 r) (by omega) (by omega), w32_of (z := s (o + 3) r * N 0 11) (by omega) (by omega), w32_of (z := s (o + 3) r + 1) (by omega) (by omega)]
  refine ⟨hin, hin, fun c => ⟨hin, fun c2 => ?_, fun c2 => absurd h9 c2⟩, fun c => ⟨hin, hin, fun s16 e16 => ⟨hin, fun c2 => ?_, fun c2 => ⟨⟨hin, trivial⟩, fun s20 e20 => ?_⟩⟩⟩⟩
  · have q := g2 c
    rw [q] at K
    exact K s (by rw [if_neg (by omega)]; exact h1) rfl (by rw [if_neg (by omega)]; omega) Same.rfl'
  · have q := g3 c
    rw [q] at K
    have e16' : s16 (o + 3) r = s (o + 3) r + 1 := by rw [e16, up_at]
    rw [e16'] at c2
    refine K s16 ?_ e16' ?_ ?_
    · rw [if_neg (by omega), e16, up_c (by omega)]; exact h1
    · rw [if_neg (by omega), e16, up_c (by omega)]; omega
    · rw [e16]; exact Same.rfl'.up (Or.inl ⟨Or.inr rfl, rfl⟩)
  · have q := g3 c
    rw [q] at K
    have e16' : s16 (o + 3) r = s (o + 3) r + 1 := by rw [e16, up_at]
    have e11 : s16 o 11 = s o 11 := by rw [e16, up_c (by omega)]
    rw [e16'] at c2
    rw [settle_v (by rw [e11]; exact hv), e11] at e20
    refine K s20 ?_ ?_ ?_ ?_
    · rw [if_pos (by omega), e20, up_c (by omega), up_at]
    · rw [e20, up_c (by omega), up_c (by omega), e16']
    · rw [if_pos (by omega), e20, up_at]; omega
    · rw [e20, e16]; exact ((Same.rfl'.up (Or.inl ⟨Or.inr rfl, rfl⟩)).up (Or.inl ⟨Or.inl rfl, rfl⟩)).up (Or.inr ⟨rfl, rfl⟩)
theorem shift_v {N s : Sto} {p1 o r : Nat} {way : Int} (hC : NtC N p1 s) (hr : r < 8) (hc : 0 ≤ s (o + 2) r ∧ s (o + 2) r < 36) (hw : 0 ≤ way ∧ way ≤ 3) :
    (nxt N (s (o + 2) r) way = -1 → F_X6_shift o (r : Int) way s = 0 ∧ S_X6_shift o (r : Int) way s = s) ∧ (¬ nxt N (s (o + 2) r) way = -1 → F_X6_shift o (r : Int) way s = 1 ∧ S_X6_shift o (r : Int) way s = up s (o + 2) r (nxt N (s (o + 2) r) way)) ∧ O_X6_shift o (r : Int) way s := by
  have hin : inb (r : Int) 8 := ⟨by omega, by omega⟩
  have e1 : w32 (w32 (s (o + 2) r * 4) + way) = s (o + 2) r * 4 + way := by rw [w32_of (z := s (o + 2) r * 4) (by omega) (by omega), w32_of (by omega) (by omega)]
  have e2 : (s (o + 2) r * 4 + way).toNat = 4 * (s (o + 2) r).toNat + way.toNat := by omega
  have e3 : s 5 (4 * (s (o + 2) r).toNat + way.toNat) = nxt N (s (o + 2) r) way := hC.2.2.2.2.2.2.2.2 _ (by omega)
  have n1 : ¬ s (o + 2) r * 4 + way < 0 := by omega
  have n2 : ¬ 144 ≤ s (o + 2) r * 4 + way := by omega
  unfold F_X6_shift S_X6_shift O_X6_shift
  rw [Int.toNat_natCast, e1, e2, e3, if_neg n1, if_neg n2, if_neg n1, if_neg n2]
  exact ⟨fun q => by rw [if_pos q, if_pos q]; exact ⟨rfl, rfl⟩, fun q => by rw [if_neg q, if_neg q]; exact ⟨rfl, rfl⟩, hin, fun q => absurd q n1, fun _ => ⟨fun q => absurd q n2, fun _ => ⟨⟨by omega, by omega⟩, fun _ => trivial, fun _ => ⟨hin, trivial⟩⟩⟩⟩
theorem T_move {N σ s : Sto} {o p1 r k : Nat} {Q : Int → Sto → Prop} (ho : o = 16 ∨ o = 54) (hp : p1 = 6 ∨ p1 = 44) (hN : NOk N) (hC : NtC N p1 s) (hr : (r : Int) < N 0 0) (hk : k < 20) (hI : RInv N k σ r) (hσ : σ 1 r = 1) (h1 : s (o + 1) r = σ 1 r) (h2 : s (o + 2) r = σ 2 r) (h3 : s (o + 3) r = σ 3 r) (h4 : s (o + 4) r = σ 4 r) (hv : 1 ≤ s o 11 ∧ s o 11 ≤ 8) (K : ∀ t, t (o + 1) r = pA1 N k σ r → t (o + 2) r = pA2 N k σ r → t (o + 3) r = pA3 N k σ r → t (o + 4) r = pA4 σ r → t o 11 = s o 11 + (if pA1 N k σ r = 1 then 0 else -1) → Same (fun a b => (o + 1 ≤ a ∧ a ≤ o + 4 ∧ b = r) ∨ (a = o ∧ b = 11)) s t → Q 0 t) : P_X6_move o p1 (r : Int) (k : Int) s Q := by
  have hR := hN.1
  have hC4 := hN.2.2.2.1
  have hin : inb (r : Int) 8 := ⟨by omega, by omega⟩
  have hink : inb (k : Int) 20 := ⟨by omega, by omega⟩
  have hRr := hN.2.2.2.2.1 r hr
  have hwk := hN.2.2.2.2.2.2.1 k hk
  obtain ⟨i1, i2, i3, i4, i5⟩ := id hI
  obtain ⟨⟨i6, i7⟩, i8, i9⟩ := i4 hσ
  have hb := i3 (by omega)
  have ew : s (p1 + 9) k = N 9 k := hC.2.2.2.2.2.2.1 k hk
  have e3 : s (p1 + 3) r = N 3 r := (hC.2.2.2.2.1 r hr).2.2.1
  have ne9 : ¬ ((3 : Int) = 1) := by decide
  have D1 : ∀ a b, ((a = o + 1 ∨ a = o + 3) ∧ b = r) ∨ (a = o ∧ b = 11) → (o + 1 ≤ a ∧ a ≤ o + 4 ∧ b = r) ∨ (a = o ∧ b = 11) := fun a b q => by omega
  -- a settled end: broken
  have brk : ∀ u : Sto, mA2 N k σ r = -1 → Same (fun a b => (o + 1 ≤ a ∧ a ≤ o + 4 ∧ b = r) ∨ (a = o ∧ b = 11)) s u → u o 11 = s o 11 → u (o + 2) r = mB1 N σ r → u (o + 3) r = σ 3 r → u (o + 4) r = pA4 σ r → ∀ t, t = S_X6_settle o (r : Int) 3 u → Q 0 t := by
    intro u q1 q2 q3 q4 q5 q6 t et
    rw [settle_v (by rw [q3]; exact hv), q3] at et
    have w1 : pA1 N k σ r = 3 := by unfold pA1; rw [if_pos hσ, if_pos q1]
    have w2 : pA2 N k σ r = mB1 N σ r := by unfold pA2 mB2; rw [if_pos hσ, if_pos q1]
    have w3 : pA3 N k σ r = σ 3 r := by unfold pA3; rw [if_pos hσ, if_pos q1]
    refine K t ?_ ?_ ?_ ?_ ?_ ?_
    · rw [w1, et, up_c (by omega), up_at]
    · rw [w2, et, up_c (by omega), up_c (by omega)]; exact q4
    · rw [w3, et, up_c (by omega), up_c (by omega)]; exact q5
    · rw [et, up_c (by omega), up_c (by omega)]; exact q6
    · rw [w1, if_neg ne9, et, up_at]; omega
    · rw [et]; exact (q2.up (Or.inl ⟨by omega, by omega, rfl⟩)).up (Or.inr ⟨rfl, rfl⟩)
  -- a whole end
  have whl : ∀ u : Sto, ¬ mA2 N k σ r = -1 → Same (fun a b => (o + 1 ≤ a ∧ a ≤ o + 4 ∧ b = r) ∨ (a = o ∧ b = 11)) s u → u o 11 = s o 11 → u (o + 1) r = 1 → u (o + 2) r = mA2 N k σ r → u (o + 3) r = σ 3 r → u (o + 4) r = pA4 σ r → NtC N p1 u → tailP o p1 r k u Q := by
    intro u q1 q2 q3 q7 q4 q5 q6 qC
    refine T_tail ho hp hN qC hr hk q7 (by rw [q5]; exact i8) (by rw [q5]; exact i9) hb (by rw [q3]; exact hv) (fun t t1 t2 t3 t4 => ?_)
    have w1 : pA1 N k σ r = (if 9 < wdt N k r then 4 else 1) := by unfold pA1; rw [if_pos hσ, if_neg q1]
    have w2 : pA2 N k σ r = mA2 N k σ r := by unfold pA2 mB2; rw [if_pos hσ, if_neg q1]
    have w3 : pA3 N k σ r = wdt N k r := by unfold pA3; rw [if_pos hσ, if_neg q1]
    refine K t ?_ ?_ ?_ ?_ ?_ ?_
    · rw [w1]; exact t1
    · rw [w2, t4 _ _ (by omega)]; exact q4
    · rw [w3]; exact t2
    · rw [t4 _ _ (by omega)]; exact q6
    · rw [w1, t3, q3]
      by_cases c : 9 < wdt N k r
      · rw [if_pos c, if_pos c, if_neg (by decide)]
      · rw [if_neg c, if_neg c, if_pos rfl]
    · exact q2.trans (t4.mono D1)
  unfold P_X6_move
  rw [Int.toNat_natCast, Int.toNat_natCast]
  refine ⟨hin, fun c1 => ⟨hink, fun c2 => ?_, fun c2 => ?_⟩, fun c1 => ⟨hin, hin, fun s45 e45 => ⟨hin, ?_⟩⟩⟩
  · -- no breath, no wind
    have a1 : mA1 N σ r = σ 2 r := by unfold mA1; rw [if_neg (by omega)]
    have a2 : mA2 N k σ r = σ 2 r := by unfold mA2; rw [a1, if_neg (by omega), if_pos (by omega)]
    refine whl s (by omega) Same.rfl' rfl (by omega) (by omega) h3 ?_ hC
    unfold pA4; rw [if_pos hσ, if_neg (by omega), h4]
  · -- no breath, wind
    have a1 : mA1 N σ r = σ 2 r := by unfold mA1; rw [if_neg (by omega)]
    have b1 : mB1 N σ r = σ 2 r := by unfold mB1; rw [a1, if_neg (by omega)]
    have a2 : mA2 N k σ r = nxt N (σ 2 r) (N 9 k) := by unfold mA2; rw [a1, if_neg (by omega), if_neg (by omega)]
    have p4 : pA4 σ r = s (o + 4) r := by unfold pA4; rw [if_pos hσ, if_neg (by omega), h4]
    obtain ⟨g1, g2, g3⟩ := shift_v (s := s) (o := o) (way := s (p1 + 9) k) hC (by omega : r < 8) (by omega) (by omega)
    rw [ew, h2] at g1 g2
    rw [ew]
    refine ⟨hink, by rw [ew] at g3; exact g3, fun s24 e24 x25 e25 => ⟨fun c3 => ⟨⟨hin, trivial⟩, ?_⟩, fun c3 => ?_⟩⟩
    · by_cases c4 : nxt N (σ 2 r) (N 9 k) = -1
      · rw [(g1 c4).2] at e24
        subst e24
        exact brk s24 (by omega) Same.rfl' rfl (by omega) h3 p4.symm
      · rw [(g2 c4).1] at e25; omega
    · by_cases c4 : nxt N (σ 2 r) (N 9 k) = -1
      · rw [(g1 c4).1] at e25; omega
      · rw [(g2 c4).2] at e24
        have hS : Same (fun a b => (o + 1 ≤ a ∧ a ≤ o + 4 ∧ b = r) ∨ (a = o ∧ b = 11)) s s24 := by rw [e24]; exact Same.rfl'.up (Or.inl ⟨by omega, by omega, rfl⟩)
        exact whl s24 (by omega) hS (by rw [e24, up_c (by omega)]) (by rw [e24, up_c (by omega)]; omega) (by rw [e24, up_at, a2]) (by rw [e24, up_c (by omega)]; exact h3) (by rw [p4, e24, up_c (by omega)]) (NtC_cg ho hp hC (hS.mono (fun a b q => by unfold DPl; omega)))
  · -- breath
    rw [w32_of (by omega) (by omega)] at e45
    have f1 : s45 (o + 1) r = 1 := by rw [e45, up_c (by omega)]; omega
    have f2 : s45 (o + 2) r = σ 2 r := by rw [e45, up_c (by omega)]; exact h2
    have f3 : s45 (o + 3) r = σ 3 r := by rw [e45, up_c (by omega)]; exact h3
    have f4 : s45 (o + 4) r = pA4 σ r := by rw [e45, up_at]; unfold pA4; rw [if_pos hσ, if_pos (by omega), h4]
    have f11 : s45 o 11 = s o 11 := by rw [e45, up_c (by omega)]
    have hS5 : Same (fun a b => (o + 1 ≤ a ∧ a ≤ o + 4 ∧ b = r) ∨ (a = o ∧ b = 11)) s s45 := by rw [e45]; exact Same.rfl'.up (Or.inl ⟨by omega, by omega, rfl⟩)
    have hC5 : NtC N p1 s45 := NtC_cg ho hp hC (hS5.mono (fun a b q => by unfold DPl; omega))
    have ew5 : s45 (p1 + 3) r = N 3 r := (hC5.2.2.2.2.1 r hr).2.2.1
    have a1 : mA1 N σ r = nxt N (σ 2 r) (N 3 r) := by unfold mA1; rw [if_pos (by omega)]
    obtain ⟨g1, g2, g3⟩ := shift_v (s := s45) (o := o) (way := s45 (p1 + 3) r) hC5 (by omega : r < 8) (by omega) (by omega)
    rw [ew5, f2] at g1 g2
    rw [ew5]
    refine ⟨by rw [ew5] at g3; exact g3, fun s49 e49 x50 e50 => ⟨fun c3 => ⟨⟨hin, trivial⟩, ?_⟩, fun c3 => ⟨hink, ?_⟩⟩⟩
    · by_cases c4 : nxt N (σ 2 r) (N 3 r) = -1
      · rw [(g1 c4).2] at e49
        subst e49
        have a2 : mA2 N k σ r = -1 := by unfold mA2; rw [if_pos (by omega)]
        have b1 : mB1 N σ r = σ 2 r := by unfold mB1; rw [if_pos (by omega)]
        exact brk s49 a2 hS5 f11 (by omega) f3 f4
      · rw [(g2 c4).1] at e50; omega
    · by_cases c4 : nxt N (σ 2 r) (N 3 r) = -1
      · rw [(g1 c4).1] at e50; omega
      · rw [(g2 c4).2] at e49
        have hS9 : Same (fun a b => (o + 1 ≤ a ∧ a ≤ o + 4 ∧ b = r) ∨ (a = o ∧ b = 11)) s s49 := by rw [e49]; exact hS5.up (Or.inl ⟨by omega, by omega, rfl⟩)
        have hC9 : NtC N p1 s49 := NtC_cg ho hp hC (hS9.mono (fun a b q => by unfold DPl; omega))
        have k1 : s49 (o + 1) r = 1 := by rw [e49, up_c (by omega)]; exact f1
        have k2 : s49 (o + 2) r = mA1 N σ r := by rw [e49, up_at, a1]
        have k3 : s49 (o + 3) r = σ 3 r := by rw [e49, up_c (by omega)]; exact f3
        have k4 : s49 (o + 4) r = pA4 σ r := by rw [e49, up_c (by omega)]; exact f4
        have k11 : s49 o 11 = s o 11 := by rw [e49, up_c (by omega)]; exact f11
        have ew9 : s49 (p1 + 9) k = N 9 k := hC9.2.2.2.2.2.2.1 k hk
        have b1 : mB1 N σ r = mA1 N σ r := by unfold mB1; rw [if_neg (by omega)]
        have hm1 := mA1_rng hN hr hI hσ
        refine ⟨fun c5 => ?_, fun c5 => ⟨hink, ?_⟩⟩
        · have a2 : mA2 N k σ r = mA1 N σ r := by unfold mA2; rw [if_neg (by omega), if_pos (by omega)]
          exact whl s49 (by omega) hS9 k11 k1 (by omega) k3 k4 hC9
        · have a2 : mA2 N k σ r = nxt N (mA1 N σ r) (N 9 k) := by unfold mA2; rw [if_neg (by omega), if_neg (by omega)]
          obtain ⟨j1, j2, j3⟩ := shift_v (s := s49) (o := o) (way := s49 (p1 + 9) k) hC9 (by omega : r < 8) (by omega) (by omega)
          rw [ew9, k2] at j1 j2
          rw [ew9]
          refine ⟨by rw [ew9] at j3; exact j3, fun s75 e75 x76 e76 => ⟨fun c6 => ⟨⟨hin, trivial⟩, ?_⟩, fun c6 => ?_⟩⟩
          · by_cases c7 : nxt N (mA1 N σ r) (N 9 k) = -1
            · rw [(j1 c7).2] at e75
              subst e75
              exact brk s75 (by omega) hS9 k11 (by omega) k3 k4
            · rw [(j2 c7).1] at e76; omega
          · by_cases c7 : nxt N (mA1 N σ r) (N 9 k) = -1
            · rw [(j1 c7).1] at e76; omega
            · rw [(j2 c7).2] at e75
              have hS7 : Same (fun a b => (o + 1 ≤ a ∧ a ≤ o + 4 ∧ b = r) ∨ (a = o ∧ b = 11)) s s75 := by rw [e75]; exact hS9.up (Or.inl ⟨by omega, by omega, rfl⟩)
              exact whl s75 (by omega) hS7 (by rw [e75, up_c (by omega)]; exact k11) (by rw [e75, up_c (by omega)]; exact k1) (by rw [e75, up_at, a2]) (by rw [e75, up_c (by omega)]; exact k3) (by rw [e75, up_c (by omega)]; exact k4) (NtC_cg ho hp hC (hS7.mono (fun a b q => by unfold DPl; omega)))
