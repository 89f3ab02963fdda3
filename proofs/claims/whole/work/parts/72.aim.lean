/-! ===== aim ===== -/
def aimN (N : Sto) (r c : Nat) : Sto := up (up N 3 r ((c / 9 : Nat) : Int)) 4 r ((c % 9 + 1 : Nat) : Int)
def am (N : Sto) (r : Nat) : Nat → Int × Int
  | 0 => (-1, -1)
  | c + 1 => if nbd (aimN N r c) ≤ (am N r c).2 then am N r c else ((c : Int), nbd (aimN N r c))
theorem am_s {N : Sto} {r c : Nat} : am N r (c + 1) = if nbd (aimN N r c) ≤ (am N r c).2 then am N r c else ((c : Int), nbd (aimN N r c)) := rfl
theorem am_ge {N : Sto} {r c : Nat} : nbd (aimN N r c) ≤ (am N r (c + 1)).2 := by
  rw [am_s]
  by_cases q : nbd (aimN N r c) ≤ (am N r c).2
  · rw [if_pos q]; exact q
  · rw [if_neg q]; exact Int.le_refl _
theorem nbd_0 (N : Sto) : 0 ≤ nbd N ∧ nbd N ≤ (nT N : Int) := cntB_rng _ _
theorem am_rng {N : Sto} {r : Nat} : ∀ c : Nat, (c = 0 ∧ am N r c = (-1, -1)) ∨ (0 < c ∧ 0 ≤ (am N r c).1 ∧ (am N r c).1 < (c : Int) ∧ 0 ≤ (am N r c).2) := by
  intro c
  induction c with
  | zero => exact Or.inl ⟨rfl, rfl⟩
  | succ c ih =>
    have h0 := (nbd_0 (aimN N r c)).1
    right
    rw [am_s]
    by_cases q : nbd (aimN N r c) ≤ (am N r c).2
    · rw [if_pos q]
      rcases ih with ⟨h1, h2⟩ | ⟨h1, h2, h3, h4⟩
      · rw [h2] at q
        have q : nbd (aimN N r c) ≤ -1 := q
        omega
      · exact ⟨by omega, h2, by omega, h4⟩
    · rw [if_neg q]
      show 0 < c + 1 ∧ 0 ≤ (c : Int) ∧ (c : Int) < ((c + 1 : Nat) : Int) ∧ 0 ≤ nbd (aimN N r c)
      exact ⟨by omega, by omega, by omega, h0⟩
theorem am_flat {N : Sto} {r c : Nat} : ∀ d : Nat, (∀ j, j < d → nbd (aimN N r (c + j)) ≤ (am N r c).2) → am N r (c + d) = am N r c := by
  intro d
  induction d with
  | zero => intro _; rfl
  | succ d ih =>
    intro h
    have e := ih (fun j hj => h j (by omega))
    rw [show c + (d + 1) = (c + d) + 1 by omega, am_s, e, if_pos (h d (by omega))]
theorem nT_up {N : Sto} {a b : Nat} {z : Int} (h : a ≠ 0) : nT (up N a b z) = nT N := by
  unfold nT
  rw [up_c (fun w => h w.symm)]
theorem nR_up {N : Sto} {a b : Nat} {z : Int} (h : a ≠ 0) : nR (up N a b z) = nR N := by
  unfold nR
  rw [up_c (fun w => h w.symm)]
theorem nbd_more {N : Sto} {r : Nat} {b b' : Int} (hb : b ≤ b') (h : 0 < sm (up N 4 r b) 20 4 r) : nbd (up N 4 r b') = nbd (up N 4 r b) := by
  have hs := (breath_more hb h).1
  have e : bnB (sm (up N 4 r b') 20) = bnB (sm (up N 4 r b) 20) := by
    funext x
    unfold bnB
    rw [hs 5 x (by omega)]
  unfold nbd
  rw [e, nT_up (by decide), nT_up (by decide)]
def aimV (N : Sto) (r : Nat) (w : Int) : Int := if w = 0 then (am N r 36).1 / 9 else if w = 1 then (am N r 36).1 % 9 + 1 else (am N r 36).2
/-- what the class keeps of its search -/
def AmC (N : Sto) (r c : Nat) (s : Sto) : Prop := s 62 6 = (am N r c).2 ∧ (0 < c → s 62 4 = (am N r c).1 / 9 ∧ s 62 5 = (am N r c).1 % 9 + 1)
theorem AmC_cg {N s t : Sto} {r c : Nat} (h : AmC N r c s) (hS : ∀ b, t 62 b = s 62 b) : AmC N r c t := by
  unfold AmC
  rw [hS, hS, hS]
  exact h
theorem NOk_aim {N : Sto} {r : Nat} {w b : Int} (hN : NOk N) (hw : 0 ≤ w ∧ w ≤ 3) (hb : 1 ≤ b ∧ b ≤ 9) : NOk (up (up N 3 r w) 4 r b) := NOk_up (NOk_up hN (by unfold lgl; omega)) (by unfold lgl; omega)
theorem T_caim {N s : Sto} {r : Nat} {Q : Int → Sto → Prop} (hN : NOk N) (hC : NtC N 6 s) (hr : (r : Int) < N 0 0) (k : ∀ t, AmC N r 36 t → Same DScr s t → Q 0 t) : P_X5_seekAim (r : Int) s Q := by
  have hr8 : r < 8 := by have := hN.1; omega
  unfold P_X5_seekAim
  refine T_becomes hN hC (fun t0 hCt0 hSt0 s3 e3 => ?_)
  have hS3 : Same DScr s s3 := by rw [e3]; exact DScr_tr (Same_tr hSt0) (by omega)
  have hC3 : NtC N 44 s3 := by
    have e : ∀ a b, a ≠ 62 → s3 a b = t0 a b := fun a b q => by rw [e3, up_c q]
    obtain ⟨h1, h2, h3, h4, h5, h6, h7, h8, h9⟩ := hCt0
    exact ⟨by rw [e _ _ (by decide)]; exact h1, by rw [e _ _ (by decide)]; exact h2, by rw [e _ _ (by decide)]; exact h3, by rw [e _ _ (by decide)]; exact h4, fun r hr => by rw [e _ _ (by decide), e _ _ (by decide), e _ _ (by decide), e _ _ (by decide), e _ _ (by decide)]; exact h5 r hr, fun x hx => by rw [e _ _ (by decide), e _ _ (by decide), e _ _ (by decide)]; exact h6 x hx, fun k hk => by rw [e _ _ (by decide)]; exact h7 k hk, fun c hc => by rw [e _ _ (by decide)]; exact h8 c hc, fun i hi => by rw [e _ _ (by decide)]; exact h9 i hi⟩
  refine lp2 (L_X5_seekAim_18 (r : Int) _) (fun y u => ∃ w : Nat, y = (w : Int) ∧ w ≤ 4 ∧ (∃ z1 z2, NtC (up (up N 3 r z1) 4 r z2) 44 u) ∧ AmC N r (9 * w) u ∧ Same DScr s u) (fun y _ => (5 - y).toNat) ?_ 0 s3 ⟨0, rfl, by omega, ⟨N 3 r, N 4 r, by
    rw [show up N 3 r (N 3 r) = N from up_self, up_self]; exact hC3⟩, ⟨by rw [e3, up_at]; rfl, fun q => absurd q (by omega)⟩, hS3⟩
  intro n y u ⟨w, hy, hw, ⟨z1, z2, hCu⟩, hA, hSu⟩ ih
  subst hy
  unfold L_X5_seekAim_18
  rw [Int.toNat_natCast]
  refine ⟨fun c => ?_, fun c => ⟨inb8 hr8, fun s4 e4 => ?_⟩⟩
  · have : w = 4 := by omega
    subst this
    exact k u hA hSu
  · have hw3 : w < 4 := by omega
    have hwp := ixp (b := w) (by omega)
    have hmu : (5 - ((w + 1 : Nat) : Int)).toNat < (5 - (w : Int)).toNat := by omega
    rw [hwp]
    clear hwp
    have hC4 : NtC (up (up N 3 r (w : Int)) 4 r z2) 44 s4 := by
      have := NtC_up (a := 3) (b := r) (z := (w : Int)) hCu (by omega)
      rw [up_cm (by omega), up_up] at this
      rw [e4]
      exact this
    have hS4 : Same DScr s s4 := by rw [e4]; exact DScr_tr hSu (by omega)
    have hA4 : AmC N r (9 * w) s4 := AmC_cg hA (fun b => by rw [e4, up_c (by decide)])
    -- the inner walk
    refine lp3 (L_X5_seekAim_38 (r : Int) (w : Int) _) (fun x y u => ∃ b : Nat, y = ((b + 1 : Nat) : Int) ∧ b ≤ 9 ∧ (∃ z, NtC (up (up N 3 r (w : Int)) 4 r z) 44 u) ∧ AmC N r (9 * w + b) u ∧ (x = 0 → 0 < b ∧ am N r (9 * w + 9) = am N r (9 * w + b)) ∧ Same DScr s u) (fun _ y _ => (11 - y).toNat) ?_ 1 1 s4 ⟨0, rfl, by omega, ⟨z2, hC4⟩, hA4, fun q => absurd q (by decide), hS4⟩
    intro m x y v ⟨b, hy, hb, ⟨z, hCv⟩, hAv, hx, hSv⟩ ih2
    subst hy
    have fin : am N r (9 * w + 9) = am N r (9 * w + b) → (0 < b) → L_X5_seekAim_18 (r : Int) (fun s4 => Q 0 s4) n ((w + 1 : Nat) : Int) v := by
      intro q q2
      refine ih _ _ ⟨w + 1, rfl, by omega, ⟨_, _, hCv⟩, ?_, hSv⟩ hmu
      unfold AmC at hAv ⊢
      rw [show 9 * (w + 1) = 9 * w + 9 by omega, q]
      exact ⟨hAv.1, fun _ => hAv.2 (by omega)⟩
    unfold L_X5_seekAim_38
    rw [Int.toNat_natCast]
    refine ⟨fun c1 => ?_, fun c1 => ⟨fun c2 => ?_, fun c2 => ⟨inb8 hr8, fun s5 e5 => ?_⟩⟩⟩
    · have : b = 9 := by omega
      subst this
      exact fin rfl (by omega)
    · obtain ⟨q1, q2⟩ := hx c2
      exact fin q2 q1
    · have hb8 : b < 9 := by omega
      have hwb := ixp (b := b + 1) (by omega)
      have hmu2 : (11 - ((b + 1 + 1 : Nat) : Int)).toNat < (11 - ((b + 1 : Nat) : Int)).toNat := by omega
      rw [hwb]
      clear hwb
      have hC5 : NtC (up (up N 3 r (w : Int)) 4 r ((b + 1 : Nat) : Int)) 44 s5 := by
        have := NtC_up (a := 4) (b := r) (z := ((b + 1 : Nat) : Int)) hCv (by omega)
        rw [up_up] at this
        rw [e5]
        exact this
      have hN5 := NOk_aim (r := r) (w := (w : Int)) (b := ((b + 1 : Nat) : Int)) hN (by omega) (by omega)
      have hS5 : Same DScr s s5 := by rw [e5]; exact DScr_tr hSv (by omega)
      have ea : aimN N r (9 * w + b) = up (up N 3 r (w : Int)) 4 r ((b + 1 : Nat) : Int) := by
        unfold aimN
        rw [show (9 * w + b) / 9 = w by omega, show (9 * w + b) % 9 = b by omega]
      refine T_playAll (Or.inr rfl) (Or.inr rfl) hN5 hC5 (fun s6 hP6 hS6 => ⟨inb8 hr8, fun x8 e8 => ?_⟩)
      have hC6 := NtC_cg (Or.inr rfl) (Or.inr rfl) hC5 hS6
      have h8 : s6 54 8 = nbd (aimN N r (9 * w + b)) := by rw [ea]; exact hP6.2.2.1
      have h4 : s6 58 r = sm (up (up N 3 r (w : Int)) 4 r ((b + 1 : Nat) : Int)) 20 4 r := by
        refine (hP6.1 r ?_).2.2.2
        rw [up_c (by decide), up_c (by decide)]; exact hr
      have hA6 : AmC N r (9 * w + b) s6 := AmC_cg hAv (fun b => by rw [hS6 _ _ (by unfold DPl; omega), e5, up_c (by decide)])
      have hSS6 : Same DScr s s6 := hS5.trans (Same_pl hS6)
      have hspent : x8 = 0 → 0 < b + 1 ∧ am N r (9 * w + 9) = am N r (9 * w + (b + 1)) := by
        intro q
        refine ⟨by omega, ?_⟩
        have hpos : 0 < s6 58 r := by
          by_cases w2 : 0 < s6 58 r
          · exact w2
          · rw [if_neg w2] at e8; omega
        rw [h4] at hpos
        have := am_flat (N := N) (r := r) (c := 9 * w + (b + 1)) (8 - b) (fun j hj => ?_)
        · rw [show 9 * w + (b + 1) + (8 - b) = 9 * w + 9 by omega] at this
          exact this
        · have e9 : aimN N r (9 * w + (b + 1) + j) = up (up N 3 r (w : Int)) 4 r ((b + 1 + j + 1 : Nat) : Int) := by
            unfold aimN
            rw [show (9 * w + (b + 1) + j) / 9 = w by omega, show (9 * w + (b + 1) + j) % 9 = b + 1 + j by omega]
          rw [e9, nbd_more (b := ((b + 1 : Nat) : Int)) (by omega) hpos, ← ea]
          exact am_ge
      rw [h8, hA6.1]
      refine ⟨fun c3 => ih2 _ _ _ ⟨b + 1, rfl, by omega, ⟨_, hC6⟩, ?_, hspent, hSS6⟩ hmu2, fun c3 s11 e11 s12 e12 s13 e13 => ih2 _ _ _ ⟨b + 1, rfl, by omega, ⟨((b + 1 : Nat) : Int), ?_⟩, ?_, hspent, ?_⟩ hmu2⟩
      · unfold AmC
        rw [show 9 * w + (b + 1) = (9 * w + b) + 1 by omega, am_s, if_pos c3]
        refine ⟨hA6.1, fun _ => ?_⟩
        by_cases q0 : 0 < 9 * w + b
        · exact hA6.2 q0
        · exfalso
          have := (nbd_0 (aimN N r (9 * w + b))).1
          have e0 : 9 * w + b = 0 := by omega
          rw [e0] at c3 this
          have c3 : nbd (aimN N r 0) ≤ -1 := c3
          omega
      · have e : ∀ a b, a ≠ 62 → s13 a b = s6 a b := fun a b q => by rw [e13, up_c q, e12, up_c q, e11, up_c q]
        obtain ⟨h1, h2, h3, h4, h5, h6, h7, h8, h9⟩ := hC6
        exact ⟨by rw [e _ _ (by decide)]; exact h1, by rw [e _ _ (by decide)]; exact h2, by rw [e _ _ (by decide)]; exact h3, by rw [e _ _ (by decide)]; exact h4, fun r hr => by rw [e _ _ (by decide), e _ _ (by decide), e _ _ (by decide), e _ _ (by decide), e _ _ (by decide)]; exact h5 r hr, fun x hx => by rw [e _ _ (by decide), e _ _ (by decide), e _ _ (by decide)]; exact h6 x hx, fun k hk => by rw [e _ _ (by decide)]; exact h7 k hk, fun c hc => by rw [e _ _ (by decide)]; exact h8 c hc, fun i hi => by rw [e _ _ (by decide)]; exact h9 i hi⟩
      · unfold AmC
        rw [show 9 * w + (b + 1) = (9 * w + b) + 1 by omega, am_s, if_neg c3]
        refine ⟨?_, fun _ => ⟨?_, ?_⟩⟩
        · rw [e13, up_j (by decide), e12, up_j (by decide), e11, up_at]
        · rw [e13, up_j (by decide), e12, up_at]
          show (w : Int) = ((9 * w + b : Nat) : Int) / 9
          omega
        · rw [e13, up_at]
          show ((b + 1 : Nat) : Int) = ((9 * w + b : Nat) : Int) % 9 + 1
          omega
      · rw [e13, e12, e11]; exact DScr_tr (DScr_tr (DScr_tr hSS6 (by omega)) (by omega)) (by omega)
theorem T_mall {N σ s : Sto} {Q : Int → Sto → Prop} (hN : NOk N) (hC : NtM N s) (hP : PlM N σ s) (k : Q (cntB (bnB σ) (nT N)) s) : P_X12_allBound s Q := by
  obtain ⟨n1, n2, n3⟩ := nT8 hN
  unfold P_X12_allBound
  refine lp2 (L_X12_allBound_4 s _) (fun x y => ∃ i : Nat, y = (i : Int) ∧ i ≤ nT N ∧ x = cntB (bnB σ) i) (fun _ y => (9 - y).toNat) ?_ 0 0 ⟨0, rfl, Nat.zero_le _, rfl⟩
  intro n x y ⟨i, hy, hi, hx⟩ ih
  subst hy
  have hw := (ix3 (Nat.le_trans hi n1)).2.2.1
  have hmu := mu9 (Nat.le_trans hi n1)
  unfold L_X12_allBound_4
  rw [hC.2.1, Int.toNat_natCast, hw]
  clear hw
  refine ⟨fun c => ?_, fun c => ?_⟩
  · have q := n2 i hi c
    subst q
    rw [hx]
    exact k
  · obtain ⟨i8, it, i1⟩ := n3 i hi c
    have e1 : s 85 i = σ 5 i := (hP.2.1 i it).1
    have hcr := cntB_rng (bnB σ) i
    rw [e1]
    refine ⟨inb8 i8, fun x3 e3 x5 e5 => ih _ _ ⟨i + 1, rfl, i1, ?_⟩ hmu⟩
    rw [e5, e3, hx, cntB_s]
    unfold bnB
    by_cases q : σ 5 i = -1
    · rw [if_pos q, decide_eq_false (fun w => w q), if_neg Bool.false_ne_true]
      exact w32_of (by unfold bnB at hcr; omega) (by unfold bnB at hcr; omega)
    · rw [if_neg q, decide_eq_true q, if_pos rfl]
      exact w32_of (by unfold bnB at hcr; omega) (by unfold bnB at hcr; omega)
