/-! ===== the reference lives a night: rings move, are blown, grow ===== -/
def NtM (N s : Sto) : Prop := s 69 14 = N 0 0 ∧ s 69 10 = N 0 6 ∧ s 69 13 = N 0 11 ∧ s 69 7 = N 0 1 ∧ (∀ r : Nat, (r : Int) < N 0 0 → (ib (s 69 25) r = true → N 1 r = 20) ∧ (ib (s 69 25) r = false → s 79 (5 * r) = N 1 r) ∧ s 79 (5 * r + 1) = N 2 r ∧ s 79 (5 * r + 2) = N 3 r ∧ s 79 (5 * r + 3) = N 4 r ∧ s 79 (5 * r + 4) = N 5 r) ∧ (∀ t : Nat, (t : Int) < N 0 6 → s 77 (3 * t) = N 6 t ∧ s 77 (3 * t + 1) = N 7 t ∧ s 77 (3 * t + 2) = N 8 t) ∧ (∀ k, k < 20 → N 9 k = if ib (s 69 26) k = true then -1 else s 78 k) ∧ (∀ c : Nat, (c : Int) < N 0 1 → s 76 c = 1 - N 10 c) ∧ (∀ c way : Nat, (c : Int) < N 0 1 → way < 4 → F_X12_beside (c : Int) (way : Int) s = N 11 (4 * c + way) ∧ O_X12_beside (c : Int) (way : Int) s)
def PlM (N σ s : Sto) : Prop := (∀ r : Nat, (r : Int) < N 0 0 → s 80 r = σ 1 r ∧ s 81 r = σ 2 r ∧ s 82 r = σ 3 r ∧ s 83 r = σ 4 r) ∧ (∀ t : Nat, (t : Int) < N 0 6 → s 85 t = σ 5 t ∧ s 86 t = σ 6 t) ∧ s 69 23 = σ 0 0 ∧ s 69 24 = σ 0 1
def DMl (a b : Nat) : Prop := (80 ≤ a ∧ a ≤ 86) ∨ (a = 69 ∧ (b = 23 ∨ b = 24))
def DMr (r a b : Nat) : Prop := (80 ≤ a ∧ a ≤ 83) ∧ b = r
theorem beside_cg {s t : Sto} {c w : Int} (h7 : t 69 7 = s 69 7) (h8 : t 69 8 = s 69 8) (h : t 76 = s 76) : F_X12_beside c w t = F_X12_beside c w s ∧ (O_X12_beside c w s → O_X12_beside c w t) := by
  unfold F_X12_beside O_X12_beside
  rw [h7, h8, h]
  exact ⟨rfl, id⟩
theorem NtM_cg {N s t : Sto} (h : NtM N s) (hS : Same DMl s t) : NtM N t := by
  obtain ⟨h1, h2, h3, h4, h5, h6, h7, h8, h9⟩ := h
  have e : ∀ a b, a < 69 ∨ (69 < a ∧ a < 80) ∨ 86 < a → t a b = s a b := fun a b q => hS a b (by unfold DMl; omega)
  have f : ∀ b, b ≠ 23 → b ≠ 24 → t 69 b = s 69 b := fun b q1 q2 => hS 69 b (by unfold DMl; omega)
  have e76 : t 76 = s 76 := funext (fun b => e 76 b (by omega))
  refine ⟨?_, ?_, ?_, ?_, fun r hr => ?_, fun x hx => ?_, fun k hk => ?_, fun c hc => ?_, fun c w hc hw => ?_⟩
  · rw [f _ (by omega) (by omega)]; exact h1
  · rw [f _ (by omega) (by omega)]; exact h2
  · rw [f _ (by omega) (by omega)]; exact h3
  · rw [f _ (by omega) (by omega)]; exact h4
  · rw [f _ (by omega) (by omega), e _ _ (by omega), e _ _ (by omega), e _ _ (by omega), e _ _ (by omega), e _ _ (by omega)]; exact h5 r hr
  · rw [e _ _ (by omega), e _ _ (by omega), e _ _ (by omega)]; exact h6 x hx
  · rw [f _ (by omega) (by omega), e _ _ (by omega)]; exact h7 k hk
  · rw [e _ _ (by omega)]; exact h8 c hc
  · obtain ⟨g1, g2⟩ := beside_cg (c := (c : Int)) (w := (w : Int)) (f 7 (by omega) (by omega)) (f 8 (by omega) (by omega)) e76
    obtain ⟨k1, k2⟩ := h9 c w hc hw
    exact ⟨by rw [g1]; exact k1, g2 k2⟩
theorem isIn_v {z : Int} {k : Nat} {s : Sto} (hk : k < 32) : F_X12_isIn z (k : Int) s = if ib z k = true then 1 else 0 := by
  unfold F_X12_isIn
  rw [ib_t hk]
  by_cases c : ib z k = true
  · rw [if_pos c, if_pos rfl]
  · rw [if_neg c, if_neg (by decide)]
theorem goes_v {N u : Sto} {r : Nat} {c w : Int} (hN : NOk N) (hC : NtM N u) (hr : r < 8) (hc : u 81 r = c) (h0 : 0 ≤ c ∧ c < N 0 1) (hw : 0 ≤ w ∧ w ≤ 3) : S_X12_goes (r : Int) w u = (if nxt N c w = -1 then up u 80 r 3 else up u 81 r (nxt N c w)) ∧ O_X12_goes (r : Int) w u := by
  have hin : inb (r : Int) 8 := ⟨by omega, by omega⟩
  obtain ⟨cn, rfl⟩ := Int.eq_ofNat_of_zero_le h0.1
  obtain ⟨wn, rfl⟩ := Int.eq_ofNat_of_zero_le hw.1
  obtain ⟨g1, g2⟩ := hC.2.2.2.2.2.2.2.2 cn wn h0.2 (by omega)
  have e : nxt N (cn : Int) (wn : Int) = N 11 (4 * cn + wn) := by unfold nxt; rw [Int.toNat_natCast, Int.toNat_natCast]
  unfold S_X12_goes O_X12_goes
  rw [Int.toNat_natCast, hc, g1, e]
  exact ⟨rfl, hin, g2, fun _ => ⟨hin, trivial⟩, fun _ => ⟨hin, trivial⟩⟩
/-- the wind's part of a move -/
def mwS (r k : Nat) (u : Sto) : Sto := if F_X12_isIn (u 69 26) (k : Int) u = 0 then (if u 80 r = 1 then (if u 78 k = -1 then u else S_X12_goes (r : Int) (u 78 k) u) else u) else (if u 80 r = 1 then u else u)
def mwO (r k : Nat) (u : Sto) : Prop := (F_X12_isIn (u 69 26) (k : Int) u = 0 → (inb (k : Int) 20 ∧ (inb (r : Int) 8 ∧ ((u 80 r = 1 → ((u 78 k = (-1) → True) ∧ (¬ u 78 k = (-1) → (O_X12_goes (r : Int) (u 78 k) u ∧ True)))) ∧ (¬ u 80 r = 1 → True))))) ∧ (¬ F_X12_isIn (u 69 26) (k : Int) u = 0 → (inb (r : Int) 8 ∧ True))
theorem mw_v {N u : Sto} {r k : Nat} (hN : NOk N) (hC : NtM N u) (hr : r < 8) (hk : k < 20) (h1 : u 80 r = 1) (hc : 0 ≤ u 81 r ∧ u 81 r < N 0 1) : mwS r k u = (if N 9 k = -1 then u else if nxt N (u 81 r) (N 9 k) = -1 then up u 80 r 3 else up u 81 r (nxt N (u 81 r) (N 9 k))) ∧ mwO r k u := by
  have hin : inb (r : Int) 8 := ⟨by omega, by omega⟩
  have hink : inb (k : Int) 20 := ⟨by omega, by omega⟩
  have hw := hC.2.2.2.2.2.2.1 k hk
  have hwr := hN.2.2.2.2.2.2.1 k hk
  unfold mwS mwO
  rw [isIn_v (by omega)]
  by_cases c : ib (u 69 26) k = true
  · rw [if_pos c] at hw
    rw [if_pos c, if_neg (by decide), if_pos h1, if_pos hw]
    exact ⟨rfl, fun q => absurd q (by decide), fun _ => ⟨hin, trivial⟩⟩
  · rw [if_neg c] at hw
    rw [if_neg c, if_pos rfl, if_pos h1, ← hw]
    by_cases c2 : N 9 k = -1
    · rw [if_pos c2, if_pos c2]
      exact ⟨rfl, fun _ => ⟨hink, hin, fun _ => ⟨fun _ => trivial, fun q => absurd c2 q⟩, fun q => absurd h1 q⟩, fun q => absurd rfl q⟩
    · obtain ⟨g1, g2⟩ := goes_v hN hC hr rfl hc (by omega : 0 ≤ N 9 k ∧ N 9 k ≤ 3)
      rw [if_neg c2, if_neg c2, g1]
      exact ⟨rfl, fun _ => ⟨hink, hin, fun _ => ⟨fun q => absurd q c2, fun _ => ⟨g2, trivial⟩⟩, fun q => absurd h1 q⟩, fun q => absurd rfl q⟩
theorem mw_3 {u : Sto} {r k : Nat} (hr : r < 8) (hk : k < 20) (h1 : ¬ u 80 r = 1) : mwS r k u = u ∧ mwO r k u := by
  have hin : inb (r : Int) 8 := ⟨by omega, by omega⟩
  have hink : inb (k : Int) 20 := ⟨by omega, by omega⟩
  unfold mwS mwO
  rw [if_neg h1, if_neg h1]
  refine ⟨?_, fun _ => ⟨hink, hin, fun q => absurd q h1, fun _ => trivial⟩, fun _ => ⟨hin, trivial⟩⟩
  split <;> rfl
theorem moves_e {r k : Nat} {s : Sto} (hr : r < 8) : S_X12_moves (r : Int) (k : Int) s = (if s 83 r ≤ 0 then mwS r k s else mwS r k (S_X12_goes (r : Int) (up s 83 r (w32 (s 83 r - 1)) 79 (5 * r + 2)) (up s 83 r (w32 (s 83 r - 1))))) ∧ ((s 83 r ≤ 0 → mwO r k s) → (¬ s 83 r ≤ 0 → O_X12_goes (r : Int) (up s 83 r (w32 (s 83 r - 1)) 79 (5 * r + 2)) (up s 83 r (w32 (s 83 r - 1))) ∧ mwO r k (S_X12_goes (r : Int) (up s 83 r (w32 (s 83 r - 1)) 79 (5 * r + 2)) (up s 83 r (w32 (s 83 r - 1))))) → O_X12_moves (r : Int) (k : Int) s) := by
  have hin : inb (r : Int) 8 := ⟨by omega, by omega⟩
  have e5 : w32 (w32 (5 * (r : Int)) + 2) = 5 * (r : Int) + 2 := by rw [w32_of (z := 5 * (r : Int)) (by omega) (by omega), w32_of (by omega) (by omega)]
  have e6 : (5 * (r : Int) + 2).toNat = 5 * r + 2 := by omega
  unfold S_X12_moves O_X12_moves
  rw [Int.toNat_natCast, Int.toNat_natCast, e5, e6]
  refine ⟨rfl, fun q1 q2 => ⟨hin, fun c => q1 c, fun c => ⟨hin, hin, ⟨by omega, by omega⟩, (q2 c).1, (q2 c).2⟩⟩⟩
theorem T_mmoves {N σ s : Sto} {r k : Nat} (hN : NOk N) (hC : NtM N s) (hr : (r : Int) < N 0 0) (hk : k < 20) (hI : RInv N k σ r) (hσ : σ 1 r = 1) (h1 : s 80 r = σ 1 r) (h2 : s 81 r = σ 2 r) (h4 : s 83 r = σ 4 r) : O_X12_moves (r : Int) (k : Int) s ∧ (∀ t, t = S_X12_moves (r : Int) (k : Int) s → t 80 r = (if mA2 N k σ r = -1 then 3 else 1) ∧ t 81 r = mB2 N k σ r ∧ t 82 r = s 82 r ∧ t 83 r = pA4 σ r ∧ Same (DMr r) s t) := by
  have hR := hN.1
  have hr8 : r < 8 := by omega
  have hRr := hN.2.2.2.2.1 r hr
  obtain ⟨i1, i2, i3, i4, i5⟩ := id hI
  obtain ⟨⟨i6, i7⟩, i8, i9⟩ := i4 hσ
  obtain ⟨m1, m2⟩ := moves_e (k := k) (s := s) hr8
  have D : ∀ a, 80 ≤ a → a ≤ 83 → DMr r a r := fun a q1 q2 => ⟨⟨q1, q2⟩, rfl⟩
  have ends : ∀ u : Sto, u 80 r = 1 → u 81 r = mA1 N σ r → ¬ mA1 N σ r = -1 → u 82 r = s 82 r → u 83 r = pA4 σ r → Same (DMr r) s u → mwO r k u ∧ ∀ t, t = mwS r k u → t 80 r = (if mA2 N k σ r = -1 then 3 else 1) ∧ t 81 r = mB2 N k σ r ∧ t 82 r = s 82 r ∧ t 83 r = pA4 σ r ∧ Same (DMr r) s t := by
    intro u u1 u2 un u3 u4 hSu
    have hm1 := mA1_rng hN hr hI hσ
    have hCu := NtM_cg hC (hSu.mono (fun a b q => by unfold DMl; unfold DMr at q; omega))
    have b1 : mB1 N σ r = mA1 N σ r := by unfold mB1; rw [if_neg un]
    obtain ⟨g1, g2⟩ := mw_v hN hCu hr8 hk u1 (by omega)
    refine ⟨g2, fun t et => ?_⟩
    rw [g1, u2] at et
    by_cases c : N 9 k = -1
    · have a2 : mA2 N k σ r = mA1 N σ r := by unfold mA2; rw [if_neg un, if_pos c]
      rw [if_pos c] at et
      subst et
      rw [if_neg (by omega)]
      refine ⟨u1, ?_, u3, u4, hSu⟩
      unfold mB2; rw [if_neg (by omega), a2]; exact u2
    · rw [if_neg c] at et
      have a2 : mA2 N k σ r = nxt N (mA1 N σ r) (N 9 k) := by unfold mA2; rw [if_neg un, if_neg c]
      by_cases c2 : nxt N (mA1 N σ r) (N 9 k) = -1
      · rw [if_pos c2] at et
        rw [if_pos (by omega)]
        refine ⟨by rw [et, up_at], ?_, by rw [et, up_c (by omega)]; exact u3, by rw [et, up_c (by omega)]; exact u4, by rw [et]; exact hSu.up (D 80 (by omega) (by omega))⟩
        unfold mB2; rw [if_pos (by omega), b1, et, up_c (by omega)]; exact u2
      · rw [if_neg c2] at et
        rw [if_neg (by omega)]
        refine ⟨by rw [et, up_c (by omega)]; exact u1, ?_, by rw [et, up_c (by omega)]; exact u3, by rw [et, up_c (by omega)]; exact u4, by rw [et]; exact hSu.up (D 81 (by omega) (by omega))⟩
        unfold mB2; rw [if_neg (by omega), a2, et, up_at]
  by_cases c : s 83 r ≤ 0
  · have a1 : mA1 N σ r = σ 2 r := by unfold mA1; rw [if_neg (by omega)]
    have p4 : s 83 r = pA4 σ r := by unfold pA4; rw [if_pos hσ, if_neg (by omega)]; exact h4
    obtain ⟨g1, g2⟩ := ends s (by omega) (by omega) (by omega) rfl p4 Same.rfl'
    rw [if_pos c] at m1
    rw [m1]
    exact ⟨m2 (fun _ => g1) (fun q => absurd c q), g2⟩
  · have a1 : mA1 N σ r = nxt N (σ 2 r) (N 3 r) := by unfold mA1; rw [if_pos (by omega)]
    have p4 : s 83 r - 1 = pA4 σ r := by unfold pA4; rw [if_pos hσ, if_pos (by omega), h4]
    have ew : up s 83 r (w32 (s 83 r - 1)) 79 (5 * r + 2) = N 3 r := by rw [up_c (by omega)]; exact (hC.2.2.2.2.1 r hr).2.2.2.1
    have e83 : w32 (s 83 r - 1) = s 83 r - 1 := w32_of (by omega) (by omega)
    rw [ew, e83] at m1 m2
    rw [if_neg c] at m1
    have hS5 : Same (DMr r) s (up s 83 r (s 83 r - 1)) := Same.rfl'.up (D 83 (by omega) (by omega))
    have hC5 := NtM_cg hC (hS5.mono (fun a b q => by unfold DMl; unfold DMr at q; omega))
    obtain ⟨g1, g2⟩ := goes_v (r := r) (c := σ 2 r) (w := N 3 r) hN hC5 hr8 (by rw [up_c (by omega)]; exact h2) ⟨i6, i7⟩ (by omega)
    rw [m1]
    by_cases c2 : nxt N (σ 2 r) (N 3 r) = -1
    · rw [if_pos c2] at g1
      have hno : ¬ S_X12_goes (r : Int) (N 3 r) (up s 83 r (s 83 r - 1)) 80 r = 1 := by rw [g1, up_at]; omega
      obtain ⟨f1, f2⟩ := mw_3 hr8 hk hno
      refine ⟨m2 (fun q => absurd q c) (fun _ => ⟨g2, f2⟩), fun t et => ?_⟩
      rw [f1, g1] at et
      have a2 : mA2 N k σ r = -1 := by unfold mA2; rw [if_pos (by omega)]
      have b1 : mB1 N σ r = σ 2 r := by unfold mB1; rw [if_pos (by omega)]
      rw [if_pos a2]
      refine ⟨by rw [et, up_at], ?_, by rw [et, up_c (by omega), up_c (by omega)], by rw [et, up_c (by omega), up_at]; exact p4, by rw [et]; exact hS5.up (D 80 (by omega) (by omega))⟩
      unfold mB2; rw [if_pos a2, b1, et, up_c (by omega), up_c (by omega)]; exact h2
    · rw [if_neg c2] at g1
      obtain ⟨f1, f2⟩ := ends (S_X12_goes (r : Int) (N 3 r) (up s 83 r (s 83 r - 1))) (by rw [g1, up_c (by omega), up_c (by omega)]; omega) (by rw [g1, up_at, a1]) (by omega) (by rw [g1, up_c (by omega), up_c (by omega)]) (by rw [g1, up_c (by omega), up_at]; exact p4) (by rw [g1]; exact hS5.up (D 81 (by omega) (by omega)))
      exact ⟨m2 (fun q => absurd q c) (fun _ => ⟨g2, f1⟩), f2⟩
