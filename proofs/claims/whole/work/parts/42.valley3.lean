/-! ===== the valley's text, the class's side: cells and the table of neighbours ===== -/
theorem T_cfill {p n : Nat} {s : Sto} {K : Int → Sto → Prop} (hp : 30 ≤ p) (hn : s p 1 = n) (h41 : n ≤ 41) (hal : n ≤ al (p + 1)) (h0 : s 3 0 = 0) (hok : ∀ i, i < n → vOk (s (p + 1)) i)
    (h : ∀ t, t 3 0 = vCe (s (p + 1)) n → (∀ i, i < n → ¬ s (p + 1) i = 59 → t 4 (vCe (s (p + 1)) i).toNat = if s (p + 1) i = 46 then 1 else 0) → Same (fun a b => a = 4 ∨ (a = 3 ∧ b = 0)) s t → K (vWi (s (p + 1)) n) t) : ∃ m, L_X10_fill_4 p K m 0 0 s := by
  obtain ⟨b, hb⟩ : ∃ b, b = s (p + 1) := ⟨_, rfl⟩
  rw [← hb] at h hok
  refine lp3 (L_X10_fill_4 p K) (fun x w t => ∃ k : Nat, w = k ∧ k ≤ n ∧ x = vWi b k ∧ t 3 0 = vCe b k ∧ (∀ i, i < k → ¬ b i = 59 → t 4 (vCe b i).toNat = if b i = 46 then 1 else 0) ∧ Same (fun a b => a = 4 ∨ (a = 3 ∧ b = 0)) s t) (fun _ w _ => ((n : Int) - w).toNat) ?_ 0 0 s ⟨0, rfl, by omega, rfl, h0, fun j hj => absurd hj (Nat.not_lt_zero j), Same.rfl'⟩
  rintro m x w t ⟨k, rfl, i1, rfl, i3, i5, i6⟩ ih
  have i2 : ∀ j, j < k → vOk b j := fun j hj => hok j (by omega)
  obtain ⟨a1, a2, a3, a4, a5, a6, a7, -, a9⟩ := vInv k i2
  have e1 : t p 1 = n := by rw [i6 _ _ (by omega), hn]
  unfold L_X10_fill_4
  rw [e1]
  refine ⟨fun q => ?_, fun q => ?_⟩
  · have e : k = n := by omega
    subst e
    exact h t i3 i5 i6
  · have eS : F_X9_sign p (k : Int) t = b k := by
      unfold F_X9_sign
      rw [if_neg (by omega), e1, if_neg (by omega), Int.toNat_natCast, hb]
      exact i6 _ _ (by omega)
    have eO : O_X9_sign p (k : Int) t := by
      unfold O_X9_sign
      exact ⟨fun _ => trivial, fun _ => ⟨fun _ => trivial, fun _ => ⟨⟨by omega, by omega⟩, trivial⟩⟩⟩
    have hk := hok k (by omega)
    have hmono : ∀ i, i < k → ¬ b i = 59 → vCe b i < vCe b k := by
      intro i hi hc
      have : ∀ d, vCe b i + 1 ≤ vCe b (i + 1 + d) := by
        intro d
        induction d with
        | zero => rw [Nat.add_zero, (vS_cell hc).2.2.2]; omega
        | succ d ihd =>
          by_cases c : b (i + 1 + d) = 59
          · rw [← Nat.add_assoc, (vS_semi c).2.2.2]; exact ihd
          · rw [← Nat.add_assoc, (vS_cell c).2.2.2]; omega
      have h2 := this (k - (i + 1))
      rw [show i + 1 + (k - (i + 1)) = k by omega] at h2
      omega
    have hnn : ∀ i, i ≤ k → 0 ≤ vCe b i := fun i hi => (vInv i (fun j hj => i2 j (by omega))).2.2.2.2.1.1
    rw [eS, i3]
    refine ⟨eO, fun x3 e3 => ?_⟩
    subst e3
    refine ⟨fun c x5 e5 => ?_, fun c => ?_⟩
    · obtain ⟨e1', e2', e3', e4'⟩ := vS_semi c
      rw [w32_of (by omega) (by omega)]
      refine ih _ _ _ ⟨k + 1, by omega, by omega, ?_, by rw [i3, e4'], fun i hi hc => ?_, i6⟩ (by omega)
      · rw [e5, e3']
        rcases hk with v | v
        · split
          · next w => exact a7 w
          · next w => rw [if_neg w] at a4; omega
        · omega
      · by_cases ei : i = k
        · rw [ei] at hc; exact absurd c hc
        · exact i5 i (by omega) hc
    · obtain ⟨e1', e2', e3', e4'⟩ := vS_cell c
      have hk2 : (b k = 46 ∨ b k = 35) ∧ vRs b k ≠ 6 ∧ vRo b k ≠ (if vWi b k = 0 then 6 else vWi b k) := by
        rcases hk with v | v
        · exact absurd v.1 c
        · exact v
      have h36 : vCe b k < 36 := by
        have z := hk2.2.2
        split at z <;> split at a4 <;> omega
      refine ⟨fun w => absurd w (by omega), fun w x8 e8 => ⟨⟨by omega, by omega⟩, ?_, fun s12 e12 s13 e13 => ?_⟩⟩
      · rw [e8]; split
        · exact Or.inr rfl
        · exact Or.inl rfl
      · have e7 : s12 3 0 = vCe b k := by rw [e12, up_c (by omega), i3]
        rw [e7, w32_of (by omega) (by omega)] at e13
        rw [w32_of (by omega) (by omega)]
        refine ih _ _ _ ⟨k + 1, by omega, by omega, e3'.symm, ?_, fun i hi hc => ?_, by rw [e13, e12]; exact (i6.up (Or.inl rfl)).up (Or.inr ⟨rfl, rfl⟩)⟩ (by omega)
        · rw [e13, up_at, e4']
        · rw [e13, up_c (by omega), e12]
          by_cases ei : i = k
          · rw [ei, up_at, e8]
          · have z1 := hmono i (by omega) hc
            have z2 := hnn i (by omega)
            rw [up_j (by omega)]
            exact i5 i (by omega) hc
/-- where one comes by a link: the row of cells, open or not -/
def lnk (cs : Int) (op : Nat → Int) (c to f : Int) : Int := if cs ≤ c then -1 else if f = 0 then -1 else if to < 0 ∨ cs ≤ to ∨ op to.toNat = 0 then -1 else to
def lkC (wd c : Int) : Int := if wd ≤ 0 then 0 else c.tmod wd
def lkTo (wd c : Int) (way : Nat) : Int := if way = 0 then c - wd else if way = 1 then c + 1 else if way = 2 then c + wd else c - 1
def lkF (wd c : Int) (way : Nat) : Int := if way = 1 then (if wd - 1 ≤ lkC wd c then 0 else 1) else if way = 3 then (if lkC wd c ≤ 0 then 0 else 1) else 1
def lkN (cs : Int) (op : Nat → Int) (wd c : Int) (way : Nat) : Int := lnk cs op c (lkTo wd c way) (lkF wd c way)
theorem lk1 {c way : Nat} {to f : Int} {s : Sto} (hc : c < 36) (hw : way < 4) (h3 : s 3 0 ≤ 36) : S_X10_link_ (c : Int) (way : Int) to f s = up s 5 (4 * c + way) (lnk (s 3 0) (s 4) c to f) ∧ O_X10_link_ (c : Int) (way : Int) to f s := by
  have e : w32 (w32 ((c : Int) * 4) + (way : Int)) = (c : Int) * 4 + way := by
    rw [w32_of (z := (c : Int) * 4) (by omega) (by omega), w32_of (by omega) (by omega)]
  have e2 : ((c : Int) * 4 + (way : Int)).toNat = 4 * c + way := by omega
  have hi : inb ((c : Int) * 4 + (way : Int)) 144 := ⟨by omega, by omega⟩
  unfold S_X10_link_ O_X10_link_ lnk F_X10_isOpen O_X10_isOpen
  rw [e, e2]
  constructor
  · by_cases c1 : s 3 0 ≤ (c : Int)
    · rw [if_pos c1, if_pos c1]
    · rw [if_neg c1, if_neg c1]
      by_cases c2 : f = 0
      · rw [if_pos c2, if_pos c2]
      · rw [if_neg c2, if_neg c2]
        by_cases c3 : to < 0
        · rw [if_pos c3, if_pos rfl, if_pos (Or.inl c3)]
        · rw [if_neg c3]
          by_cases c4 : s 3 0 ≤ to
          · rw [if_pos c4, if_pos rfl, if_pos (Or.inr (Or.inl c4))]
          · rw [if_neg c4]
            by_cases c5 : s 4 to.toNat = 0
            · rw [if_pos c5, if_pos rfl, if_pos (Or.inr (Or.inr c5))]
            · rw [if_neg c5, if_neg (by decide), if_neg (by omega)]
  · exact ⟨fun _ => ⟨hi, trivial⟩, fun _ => ⟨fun _ => ⟨hi, trivial⟩, fun _ => ⟨⟨fun _ => trivial, fun _ => ⟨fun _ => trivial, fun _ => ⟨⟨by omega, by omega⟩, trivial⟩⟩⟩, fun _ => ⟨hi, trivial⟩, fun _ => ⟨hi, trivial⟩⟩⟩⟩
theorem lk4 {c : Nat} {wd : Int} {s : Sto} (hc : c < 36) (hw : 0 ≤ wd ∧ wd ≤ 36) (h3 : s 3 0 ≤ 36) : S_X10_link (c : Int) wd s = up (up (up (up s 5 (4 * c + 0) (lkN (s 3 0) (s 4) wd c 0)) 5 (4 * c + 1) (lkN (s 3 0) (s 4) wd c 1)) 5 (4 * c + 2) (lkN (s 3 0) (s 4) wd c 2)) 5 (4 * c + 3) (lkN (s 3 0) (s 4) wd c 3) ∧ O_X10_link (c : Int) wd s := by
  have r3 : ∀ (t : Sto) (j : Nat) (z : Int), up t 5 j z 3 0 = t 3 0 := fun t j z => up_c (by omega)
  have r4 : ∀ (t : Sto) (j : Nat) (z : Int), up t 5 j z 4 = t 4 := fun t j z => up_ne 4 (by omega)
  have key : ∀ (f1 f3 : Int), S_X10_link_ (c : Int) 3 ((c : Int) - 1) f3 (S_X10_link_ (c : Int) 2 ((c : Int) + wd) 1 (S_X10_link_ (c : Int) 1 ((c : Int) + 1) f1 (S_X10_link_ (c : Int) 0 ((c : Int) - wd) 1 s))) = up (up (up (up s 5 (4 * c + 0) (lnk (s 3 0) (s 4) c (c - wd) 1)) 5 (4 * c + 1) (lnk (s 3 0) (s 4) c (c + 1) f1)) 5 (4 * c + 2) (lnk (s 3 0) (s 4) c (c + wd) 1)) 5 (4 * c + 3) (lnk (s 3 0) (s 4) c (c - 1) f3) ∧ O_X10_link_ (c : Int) 0 ((c : Int) - wd) 1 s ∧ O_X10_link_ (c : Int) 1 ((c : Int) + 1) f1 (S_X10_link_ (c : Int) 0 ((c : Int) - wd) 1 s) ∧ O_X10_link_ (c : Int) 2 ((c : Int) + wd) 1 (S_X10_link_ (c : Int) 1 ((c : Int) + 1) f1 (S_X10_link_ (c : Int) 0 ((c : Int) - wd) 1 s)) ∧ O_X10_link_ (c : Int) 3 ((c : Int) - 1) f3 (S_X10_link_ (c : Int) 2 ((c : Int) + wd) 1 (S_X10_link_ (c : Int) 1 ((c : Int) + 1) f1 (S_X10_link_ (c : Int) 0 ((c : Int) - wd) 1 s))) := by
    intro f1 f3
    have z0 := lk1 (way := 0) (to := (c : Int) - wd) (f := 1) hc (by omega) h3
    have z0' : S_X10_link_ (c : Int) 0 ((c : Int) - wd) 1 s = up s 5 (4 * c + 0) (lnk (s 3 0) (s 4) c (c - wd) 1) := z0.1
    rw [z0']
    have z1 := lk1 (way := 1) (to := (c : Int) + 1) (f := f1) (s := up s 5 (4 * c + 0) (lnk (s 3 0) (s 4) c (c - wd) 1)) hc (by omega) (by rw [r3]; exact h3)
    rw [r3, r4] at z1
    have z1' : S_X10_link_ (c : Int) 1 ((c : Int) + 1) f1 (up s 5 (4 * c + 0) (lnk (s 3 0) (s 4) c (c - wd) 1)) = _ := z1.1
    rw [z1']
    have z2 := lk1 (way := 2) (to := (c : Int) + wd) (f := 1) (s := up (up s 5 (4 * c + 0) (lnk (s 3 0) (s 4) c (c - wd) 1)) 5 (4 * c + 1) (lnk (s 3 0) (s 4) c (c + 1) f1)) hc (by omega) (by rw [r3, r3]; exact h3)
    rw [r3, r4, r3, r4] at z2
    have z2' : S_X10_link_ (c : Int) 2 ((c : Int) + wd) 1 (up (up s 5 (4 * c + 0) (lnk (s 3 0) (s 4) c (c - wd) 1)) 5 (4 * c + 1) (lnk (s 3 0) (s 4) c (c + 1) f1)) = _ := z2.1
    rw [z2']
    have z3 := lk1 (way := 3) (to := (c : Int) - 1) (f := f3) (s := up (up (up s 5 (4 * c + 0) (lnk (s 3 0) (s 4) c (c - wd) 1)) 5 (4 * c + 1) (lnk (s 3 0) (s 4) c (c + 1) f1)) 5 (4 * c + 2) (lnk (s 3 0) (s 4) c (c + wd) 1)) hc (by omega) (by rw [r3, r3, r3]; exact h3)
    rw [r3, r4, r3, r4, r3, r4] at z3
    exact ⟨z3.1, z0.2, z1.2, z2.2, z3.2⟩
  have hm : ¬ wd ≤ 0 → 0 ≤ (c : Int).tmod wd ∧ (c : Int).tmod wd < wd := fun q => by
    obtain ⟨w, rfl⟩ := Int.eq_ofNat_of_zero_le hw.1
    have e9 : ((c : Int).tmod (w : Int)) = ((c % w : Nat) : Int) := rfl
    rw [e9]
    have := Nat.mod_lt c (show 0 < w by omega)
    omega
  unfold S_X10_link O_X10_link lkN lkTo lkF lkC
  rw [w32_of (z := (c : Int) - 1) (by omega) (by omega), w32_of (z := (c : Int) + wd) (by omega) (by omega), w32_of (z := (c : Int) + 1) (by omega) (by omega), w32_of (z := (c : Int) - wd) (by omega) (by omega), w32_of (z := wd - 1) (by omega) (by omega)]
  simp only [if_true, if_false, Nat.one_ne_zero, (by decide : (2 : Nat) ≠ 0), (by decide : (3 : Nat) ≠ 0), (by decide : (2 : Nat) ≠ 1), (by decide : (3 : Nat) ≠ 1), (by decide : (3 : Nat) ≠ 2), (by decide : (0 : Nat) ≠ 1), (by decide : (0 : Nat) ≠ 3), (by decide : (2 : Nat) ≠ 3)]
  by_cases q : wd ≤ 0
  · simp only [if_pos q]
    by_cases q2 : wd - 1 ≤ 0
    · simp only [if_pos q2, Int.le_refl, if_true]
      obtain ⟨k1, k2, k3, k4, k5⟩ := key 0 0
      exact ⟨k1, fun _ => ⟨k2, fun _ => ⟨k3, k4, k5, trivial⟩, fun w => absurd q2 w⟩, fun w => absurd q w⟩
    · omega
  · obtain ⟨m1, m2⟩ := hm q
    rw [w32_of (z := (c : Int).tmod wd) (by omega) (by omega)]
    simp only [if_neg q]
    by_cases q2 : wd - 1 ≤ (c : Int).tmod wd
    · simp only [if_pos q2]
      by_cases q3 : (c : Int).tmod wd ≤ 0
      · simp only [if_pos q3]
        obtain ⟨k1, k2, k3, k4, k5⟩ := key 0 0
        exact ⟨k1, fun w => absurd w q, fun _ => ⟨by omega, k2, fun _ => ⟨k3, k4, fun _ => ⟨k5, trivial⟩, fun w => absurd q3 w⟩, fun w => absurd q2 w⟩⟩
      · simp only [if_neg q3]
        obtain ⟨k1, k2, k3, k4, k5⟩ := key 0 1
        exact ⟨k1, fun w => absurd w q, fun _ => ⟨by omega, k2, fun _ => ⟨k3, k4, fun w => absurd w q3, fun _ => ⟨k5, trivial⟩⟩, fun w => absurd q2 w⟩⟩
    · simp only [if_neg q2]
      by_cases q3 : (c : Int).tmod wd ≤ 0
      · simp only [if_pos q3]
        obtain ⟨k1, k2, k3, k4, k5⟩ := key 1 0
        exact ⟨k1, fun w => absurd w q, fun _ => ⟨by omega, k2, fun w => absurd w q2, fun _ => ⟨k3, k4, fun _ => ⟨k5, trivial⟩, fun w => absurd q3 w⟩⟩⟩
      · simp only [if_neg q3]
        obtain ⟨k1, k2, k3, k4, k5⟩ := key 1 1
        exact ⟨k1, fun w => absurd w q, fun _ => ⟨by omega, k2, fun w => absurd w q2, fun _ => ⟨k3, k4, fun w => absurd w q3, fun _ => ⟨k5, trivial⟩⟩⟩⟩
