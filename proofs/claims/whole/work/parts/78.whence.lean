/-! ===== whence ===== -/
def wpk (f : Nat → Bool) (v : Int) : Nat → Int × Int
  | 0 => (0, -1)
  | c + 1 => ((wpk f v c).1 + (if f c = true then 1 else 0), if f c = true ∧ (wpk f v c).1 = v then (c : Int) else (wpk f v c).2)
theorem wpk_s {f : Nat → Bool} {v : Int} {c : Nat} : wpk f v (c + 1) = ((wpk f v c).1 + (if f c = true then 1 else 0), if f c = true ∧ (wpk f v c).1 = v then (c : Int) else (wpk f v c).2) := rfl
theorem wpk_1 {f : Nat → Bool} {v : Int} : ∀ c : Nat, (wpk f v c).1 = cntB f c := by
  intro c
  induction c with
  | zero => rfl
  | succ c ih => rw [wpk_s, cntB_s, ← ih]
theorem wpk_stop {f : Nat → Bool} {v : Int} {c : Nat} (h : v < (wpk f v c).1) : ∀ d : Nat, v < (wpk f v (c + d)).1 ∧ (wpk f v (c + d)).2 = (wpk f v c).2 := by
  intro d
  induction d with
  | zero => exact ⟨h, rfl⟩
  | succ d ih =>
    rw [show c + (d + 1) = (c + d) + 1 by omega, wpk_s]
    refine ⟨?_, ?_⟩
    · show v < (wpk f v (c + d)).1 + (if f (c + d) = true then 1 else 0)
      have := ih.1
      split <;> omega
    · show (if f (c + d) = true ∧ (wpk f v (c + d)).1 = v then ((c + d : Nat) : Int) else (wpk f v (c + d)).2) = _
      rw [if_neg (fun w => by have := ih.1; omega)]
      exact ih.2
theorem wpk_cut {f : Nat → Bool} {v : Int} {C : Nat} : (∀ c : Nat, c ≤ C → wpk (fun c => decide (c < C) && f c) v c = wpk f v c) ∧ (∀ d : Nat, wpk (fun c => decide (c < C) && f c) v (C + d) = wpk f v C) := by
  have h1 : ∀ c : Nat, c ≤ C → wpk (fun c => decide (c < C) && f c) v c = wpk f v c := by
    intro c
    induction c with
    | zero => intro _; rfl
    | succ c ih =>
      intro hc
      rw [wpk_s, wpk_s, ih (by omega), decide_eq_true (by omega), Bool.true_and]
  refine ⟨h1, fun d => ?_⟩
  induction d with
  | zero => exact h1 C (Nat.le_refl C)
  | succ d ih =>
    rw [show C + (d + 1) = (C + d) + 1 by omega, wpk_s, ih, decide_eq_false (by omega), Bool.false_and, if_neg Bool.false_ne_true, if_neg (fun w => Bool.false_ne_true w.1), Int.add_zero]
def weF (N : Sto) (r n : Nat) (th oc : Nat → Int) (c : Nat) : Bool := soB (up N 2 r (c : Int)) n th oc
def weV (N : Sto) (r n : Nat) (th oc : Nat → Int) (v : Int) : Int := if v = -1 then (wpk (weF N r n th oc) v (N 0 1).toNat).1 else (wpk (weF N r n th oc) v (N 0 1).toNat).2
def WhC (N : Sto) (r n : Nat) (th oc : Nat → Int) (s : Sto) : Prop := r64 (s 64 5) ∧ ∀ c : Nat, c < 64 → lb (s 64 5) c = (decide (c < (N 0 1).toNat) && weF N r n th oc c)
theorem lO_r (x y : Int) : r64 (lO x y) := toInt_r64 _
theorem T_cwhence {N s : Sto} {r n : Nat} {th oc : Nat → Int} {Q : Int → Sto → Prop} (hN : NOk N) (hC : NtC N 6 s) (hG : SgC n th oc s) (hr : (r : Int) < N 0 0) (k : ∀ t, WhC N r n th oc t → Same DScr s t → Q 0 t) : P_X3_seekWhence (r : Int) s Q := by
  have hr8 : r < 8 := by have := hN.1; omega
  have hc36 := hN.2.2.2.1
  unfold P_X3_seekWhence
  intro s1 e1
  have hS1 : Same DScr s s1 := by rw [e1]; exact DScr_tr Same.rfl' (by omega)
  refine T_becomes hN (NtC6_sc hC hS1) (fun t hCt hSt => ?_)
  have hStt := hS1.trans (Same_tr hSt)
  have e64 : t 64 5 = 0 := by rw [hSt _ _ (by omega), e1, up_at]
  refine lp2 (L_X3_seekWhence_18 (r : Int) _) (fun y u => ∃ c : Nat, y = (c : Int) ∧ c ≤ (N 0 1).toNat ∧ (∃ z, NtC (up N 2 r z) 44 u) ∧ r64 (u 64 5) ∧ (∀ d : Nat, d < 64 → lb (u 64 5) d = (decide (d < c) && weF N r n th oc d)) ∧ Same DScr s u) (fun y _ => (37 - y).toNat) ?_ 0 t ⟨0, rfl, Nat.zero_le _, ⟨N 2 r, by rw [up_self]; exact hCt⟩, by rw [e64]; exact r32_64 r32_0, fun d _ => by rw [e64, lb_0, decide_eq_false (Nat.not_lt_zero d), Bool.false_and], hStt⟩
  intro m y u ⟨c, hy, hc, ⟨z, hCu⟩, hr64, hb, hSu⟩ ih
  subst hy
  have e3 : u 3 0 = N 0 1 := by rw [hCu.2.2.2.1, up_c (by decide)]
  unfold L_X3_seekWhence_18
  rw [e3, Int.toNat_natCast]
  refine ⟨fun q => ?_, fun q => ⟨inb8 hr8, fun s3 es3 => ?_⟩⟩
  · have : c = (N 0 1).toNat := by omega
    subst this
    exact k u ⟨hr64, hb⟩ hSu
  · have hcc : (c : Int) < N 0 1 := by omega
    have hw := ixp (b := c) (by omega)
    have hmu : (37 - ((c + 1 : Nat) : Int)).toNat < (37 - (c : Int)).toNat := by omega
    rw [hw]
    clear hw
    have hC3 : NtC (up N 2 r (c : Int)) 44 s3 := by
      have := NtC_up (a := 2) (b := r) (z := (c : Int)) hCu (by omega)
      rw [up_up] at this
      rw [es3]
      exact this
    have hN3 : NOk (up N 2 r (c : Int)) := NOk_up hN (by unfold lgl; omega)
    have hS3 : Same DScr s s3 := by rw [es3]; exact DScr_tr hSu (by omega)
    refine T_comes hN3 hC3 (SgC_cg hG (fun a b q1 q2 => hS3 a b (by unfold DScr; omega))) (fun s4 hC4 hS4 => ?_)
    have hS4' := hS3.trans (Same_pl hS4)
    have e64' : s4 64 5 = u 64 5 := by rw [hS4 _ _ (by unfold DPl; omega), es3, up_c (by decide)]
    refine ⟨fun q2 => ih _ _ ⟨c + 1, rfl, by omega, ⟨_, hC4⟩, by rw [e64']; exact hr64, fun d hd => ?_, hS4'⟩ hmu, fun q2 s7 e7 => ih _ _ ⟨c + 1, rfl, by omega, ⟨_, NtC_keep hC4 (fun a b w => by rw [e7, up_c (by omega)])⟩, by rw [e7, up_at]; exact lO_r _ _, fun d hd => ?_, by rw [e7]; exact DScr_tr hS4' (by omega)⟩ hmu⟩
    · have hf : weF N r n th oc c = false := by
        unfold weF
        cases w : soB (up N 2 r (c : Int)) n th oc with
        | true => rw [w, if_pos rfl] at q2; exact absurd q2 (by decide)
        | false => rfl
      rw [e64', hb d hd]
      by_cases w : d = c
      · rw [w, hf, Bool.and_false, Bool.and_false]
      · by_cases w2 : d < c
        · rw [decide_eq_true w2, decide_eq_true (show d < c + 1 by omega)]
        · rw [decide_eq_false w2, decide_eq_false (show ¬ d < c + 1 by omega)]
    · have hf : weF N r n th oc c = true := by
        unfold weF
        cases w : soB (up N 2 r (c : Int)) n th oc with
        | true => rfl
        | false => rw [w, if_neg Bool.false_ne_true] at q2; exact absurd rfl q2
      rw [e7, up_at, lb_O, lb_shl (by omega) hd, e64', hb d hd]
      by_cases w : d = c
      · rw [w, hf, decide_eq_true rfl, decide_eq_true (Nat.lt_succ_self c), Bool.or_true]; rfl
      · rw [decide_eq_false w, Bool.or_false]
        by_cases w2 : d < c
        · rw [decide_eq_true w2, decide_eq_true (show d < c + 1 by omega)]
        · rw [decide_eq_false w2, decide_eq_false (show ¬ d < c + 1 by omega)]
theorem T_pickWhence {N s : Sto} {r n : Nat} {th oc : Nat → Int} {v : Int} {Q : Int → Sto → Prop} (hN : NOk N) (hW : WhC N r n th oc s) (hv : -1 ≤ v) (k : Q (weV N r n th oc v) s) : P_X3_pickWhence v s Q := by
  have hc36 := hN.2.2.2.1
  obtain ⟨w1, w2⟩ := hW
  unfold P_X3_pickWhence
  refine ⟨fun c => ?_, fun c => ?_⟩
  · unfold weV at k
    rw [if_pos c, wpk_1] at k
    rw [lbc_bits w1 (by omega) w2]
    exact k
  · unfold weV at k
    rw [if_neg c] at k
    have cut := wpk_cut (f := weF N r n th oc) (v := v) (C := (N 0 1).toNat)
    have k36 := cut.2 (36 - (N 0 1).toNat)
    rw [show (N 0 1).toNat + (36 - (N 0 1).toNat) = 36 by omega] at k36
    rw [← k36] at k
    generalize hf : (fun c => decide (c < (N 0 1).toNat) && weF N r n th oc c) = f at k
    refine lp2 (L_X3_pickWhence_17 v s _ _) (fun x y => ∃ c : Nat, y = (c : Int) ∧ c ≤ 36 ∧ x = (wpk f v c).1 ∧ (wpk f v c).2 = -1 ∧ x ≤ 36) (fun _ y => (37 - y).toNat) ?_ 0 0 ⟨0, rfl, by omega, rfl, rfl, by omega⟩
    intro m x y ⟨c, hy, hc, hx, hx2, _⟩ ih
    subst hy
    have hcb := cntB_rng f c
    rw [← wpk_1 (v := v), ← hx] at hcb
    have hmu : c < 36 → (37 - ((c + 1 : Nat) : Int)).toNat < (37 - (c : Int)).toNat := fun q => by omega
    unfold L_X3_pickWhence_17
    refine ⟨fun q => ?_, fun q => ?_⟩
    · have : c = 36 := by omega
      subst this
      rw [hx2] at k
      exact k
    · have hc3 : c < 36 := by omega
      have hfc : lb (s 64 5) c = f c := by rw [w2 c (by omega), ← hf]
      rw [lb_t (by omega), hfc, ixp (b := c) (by omega)]
      refine ⟨fun q2 => ?_, fun q2 => ?_⟩
      · have hz : ¬ f c = true := fun w => by rw [if_pos w] at q2; exact absurd q2 (by decide)
        refine ih _ _ ⟨c + 1, rfl, hc3, ?_, ?_, by omega⟩ (hmu hc3)
        · rw [wpk_s, if_neg hz, Int.add_zero]; exact hx
        · rw [wpk_s]
          show (if f c = true ∧ (wpk f v c).1 = v then (c : Int) else (wpk f v c).2) = -1
          rw [if_neg (fun w => hz w.1)]; exact hx2
      · have hz : f c = true := by
          cases w : f c with
          | true => rfl
          | false => rw [w, if_neg Bool.false_ne_true] at q2; exact absurd rfl q2
        refine ⟨fun q3 => ?_, fun q3 => ?_⟩
        · have e1 : wpk f v (c + 1) = ((wpk f v c).1 + 1, (c : Int)) := by rw [wpk_s, if_pos hz, if_pos ⟨hz, by rw [← hx]; exact q3⟩]
          have hs := wpk_stop (f := f) (v := v) (c := c + 1) (by rw [e1]; show v < (wpk f v c).1 + 1; omega) (35 - c)
          rw [show c + 1 + (35 - c) = 36 by omega, e1] at hs
          rw [hs.2] at k
          exact k
        · have e1 : wpk f v (c + 1) = ((wpk f v c).1 + 1, (wpk f v c).2) := by rw [wpk_s, if_pos hz, if_neg (fun w => q3 (by rw [hx]; exact w.2))]
          have ex : w32 (x + 1) = x + 1 := w32_of (by omega) (by omega)
          rw [ex]
          clear ex
          refine ih _ _ ⟨c + 1, rfl, hc3, ?_, ?_, by omega⟩ (hmu hc3)
          · rw [e1, hx]
          · rw [e1]; exact hx2
theorem T_mwhence {N s : Sto} {r n : Nat} {th oc : Nat → Int} {v : Int} {Q : Int → Sto → Prop} (hN : NOk N) (hC : NtM N s) (hG : SgM n th oc s) (hr : (r : Int) < N 0 0) (k : ∀ t, NtM N t → Same DScr s t → Q (weV N r n th oc v) t) : P_X12_whenceOf (r : Int) v s Q := by
  have hr8 : r < 8 := by have := hN.1; omega
  have hc36 := hN.2.2.2.1
  have i1 : w32 (w32 (5 * (r : Int)) + 1) = 5 * (r : Int) + 1 := ix5w (d := 1) hr8 (by decide)
  obtain ⟨i2, i3⟩ := ix5v (d := 1) hr8 (by decide)
  have i2 : (5 * (r : Int) + 1).toNat = 5 * r + 1 := i2
  have i3 : inb (5 * (r : Int) + 1) 40 := i3
  obtain ⟨-, -, k2, -⟩ := hC.2.2.2.2.1 r hr
  unfold P_X12_whenceOf
  rw [i1, i2]
  refine ⟨i3, fun x2 e2 => ?_⟩
  have e2' : x2 = N 2 r := by rw [e2]; exact k2
  refine lp4 (L_X12_whenceOf_20 (r : Int) v x2 _) (fun a b y u => ∃ c : Nat, y = (c : Int) ∧ c ≤ (N 0 1).toNat ∧ a = (wpk (weF N r n th oc) v c).1 ∧ b = (wpk (weF N r n th oc) v c).2 ∧ (∃ z, NtM (up N 2 r z) u) ∧ Same (fun a b => DScr a b ∨ (a = 79 ∧ b = 5 * r + 1)) s u) (fun _ _ y _ => (37 - y).toNat) ?_ 0 (-1) 0 s ⟨0, rfl, Nat.zero_le _, rfl, rfl, ⟨N 2 r, by rw [up_self]; exact hC⟩, Same.rfl'⟩
  intro m a b y u ⟨c, hy, hc, ha, hb, ⟨z, hCu⟩, hSu⟩ ih
  subst hy
  have e7 : u 69 7 = N 0 1 := by rw [hCu.2.2.2.1, up_c (by decide)]
  unfold L_X12_whenceOf_20
  rw [e7, i1, i2]
  clear i1
  refine ⟨fun q => ⟨i3, fun s7 es7 => ?_⟩, fun q => ⟨i3, fun s3 es3 => ?_⟩⟩
  · have : c = (N 0 1).toNat := by omega
    subst this
    have hC7 := NtM_ring (a := 2) (r := r) (z := x2) hCu (by omega)
    rw [up_up, e2', up_self, show 5 * r + 2 - 1 = 5 * r + 1 by omega, ← e2', ← es7] at hC7
    have kk := k s7 hC7 (fun a d hd => by
      rw [es7]
      by_cases q : a = 79 ∧ d = 5 * r + 1
      · rw [q.1, q.2, up_at, e2]
      · rw [up_c2 q]; exact hSu a d (fun w => w.elim hd q))
    unfold weV at kk
    rw [ha, hb]
    refine ⟨fun w => ?_, fun w => ?_⟩
    · rw [if_pos w] at kk; exact kk
    · rw [if_neg w] at kk; exact kk
  · have hcc : (c : Int) < N 0 1 := by omega
    have hcb := cntB_rng (weF N r n th oc) c
    rw [← wpk_1 (v := v), ← ha] at hcb
    have hmu : (37 - ((c + 1 : Nat) : Int)).toNat < (37 - (c : Int)).toNat := by omega
    have hC3 := NtM_ring (a := 2) (r := r) (z := (c : Int)) hCu (by omega)
    rw [up_up, show 5 * r + 2 - 1 = 5 * r + 1 by omega, ← es3] at hC3
    have hN3 : NOk (up N 2 r (c : Int)) := NOk_up hN (by unfold lgl; omega)
    have hS3 : Same (fun a b => DScr a b ∨ (a = 79 ∧ b = 5 * r + 1)) s s3 := by rw [es3]; exact hSu.up (Or.inr ⟨rfl, rfl⟩)
    refine T_isSeen hN3 hC3 (SgM_cg hG (fun a b q => hS3 a b (by unfold DScr; omega))) (fun s4 hP4 hS4 x6 e6 x9 e9 x11 e11 => ?_)
    rw [ixp (b := c) (by omega)]
    refine ih _ _ _ _ ⟨c + 1, rfl, by omega, ?_, ?_, ⟨_, NtM_cg hC3 hS4⟩, hS3.trans ((Same_Ml hS4).mono (fun a b q => Or.inl q))⟩ hmu
    · rw [wpk_s, e11, e9, ha] 
      rw [ha] at hcb
      unfold weF at hcb ⊢
      cases w : soB (up N 2 r (c : Int)) n th oc with
      | true =>
        rw [if_pos rfl, if_neg (by decide)]
        exact w32_of (by omega) (by omega)
      | false =>
        rw [if_neg Bool.false_ne_true, if_pos rfl]
        exact w32_of (by omega) (by omega)
    · rw [wpk_s, e6, ha, hb]
      unfold weF
      cases w : soB (up N 2 r (c : Int)) n th oc with
      | true =>
        rw [if_pos rfl, if_neg (by decide)]
        show _ = if true = true ∧ _ then (c : Int) else _
        by_cases w2 : (wpk (fun c => soB (up N 2 r (c : Int)) n th oc) v c).1 = v
        · exact (if_pos w2).trans (if_pos ⟨rfl, w2⟩).symm
        · exact (if_neg w2).trans (if_neg (fun z => w2 z.2)).symm
      | false =>
        rw [if_neg Bool.false_ne_true, if_pos rfl]
        exact (if_neg (t := (c : Int)) (fun z : false = true ∧ (wpk (fun c => soB (up N 2 r (c : Int)) n th oc) v c).1 = v => Bool.false_ne_true z.1)).symm
theorem R_whence {v1 v2 : Int} {s : Sto} (h : Rel s) : P_X11_whence v1 v2 s (fun r s1 => P_X12_whence v1 v2 s1 (fun r2 s2 => r2 = r ∧ Rel s2)) := by
  have hN := tN_ok h
  obtain ⟨g1, g2⟩ := Rel_sg h
  have bad : ¬ ((0 ≤ v1 ∧ v1 < tN s 0 0) ∧ (-1 ≤ v2 ∧ v2 ≤ 35)) → P_X12_whence v1 v2 s (fun r2 s2 => r2 = -2 ∧ Rel s2) := by
    intro c
    unfold P_X12_whence
    refine T_findR h rfl (fun t t1 t2 t3 t4 t5 t6 => ?_)
    exact ⟨fun _ => ⟨rfl, t1⟩, fun q1 => ⟨fun _ => ⟨rfl, t1⟩, fun q2 => absurd ⟨yy (isRM hN t2) q1, yy in_0 q2⟩ c⟩⟩
  unfold P_X11_whence
  refine ⟨fun q => bad (fun w => (isRC h).mp q w.1), fun q1 => ⟨fun q => bad (fun w => within_0.mp q w.2), fun q2 => ?_⟩⟩
  have c1 := yy (isRC h) q1
  have c2 := yy within_0 q2
  obtain ⟨r, rfl⟩ := Int.eq_ofNat_of_zero_le c1.1
  refine T_cwhence hN tN_NtC g1 c1.2 (fun t hW hSt => T_pickWhence hN hW c2.1 ?_)
  obtain ⟨hRt, eNt⟩ := Rel_sc h hSt
  unfold P_X12_whence
  refine T_findR hRt eNt (fun u u1 u2 u3 u4 u5 u6 => ?_)
  exact ⟨fun q => absurd q (nn (isRM hN u2) c1), fun _ => ⟨fun q => absurd q (nn in_0 c2), fun _ => T_mwhence hN u2 (SgM_cg g2 (fun a b q => (hSt.trans u6) a b (by unfold DScr; omega))) c1.2 (fun w w1 w2 => ⟨rfl, (Rel_sc u1 w2).1⟩)⟩⟩
