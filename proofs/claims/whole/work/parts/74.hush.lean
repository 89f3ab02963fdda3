/-! ===== the fewest: none, one, two ===== -/
def prF (g : Nat → Nat → Bool) (c : Nat) : Bool := g (c / 8) (c % 8)
def trip (z : Prop) (d : Decidable z) (f : Nat → Bool) (n : Nat) (g : Nat → Nat → Bool) : Int × Int × Int := @ite _ z d (0, -1, -1) (if fstB f n ≠ -1 then (1, fstB f n, -1) else if fstB (prF g) 64 ≠ -1 then (2, fstB (prF g) 64 / 8, fstB (prF g) 64 % 8) else (-1, -1, -1))
def pick3 (p : Int × Int × Int) (i : Int) : Int := if i = -1 then p.1 else if i = 0 then p.2.1 else p.2.2
theorem trip_0 {z : Prop} {d : Decidable z} {f : Nat → Bool} {n : Nat} {g : Nat → Nat → Bool} (h : z) : trip z d f n g = (0, -1, -1) := by
  unfold trip
  rw [if_pos h]
theorem trip_1 {z : Prop} {d : Decidable z} {f : Nat → Bool} {n a : Nat} {g : Nat → Nat → Bool} (h : ¬ z) (ha : a < n) (h1 : f a = true) (h2 : ∀ j, j < a → f j = false) : trip z d f n g = (1, (a : Int), -1) := by
  unfold trip
  rw [if_neg h, fstB_some h1 h2 n ha, if_pos (by omega)]
theorem trip_2 {z : Prop} {d : Decidable z} {f : Nat → Bool} {n a b : Nat} {g : Nat → Nat → Bool} (h : ¬ z) (h1 : ∀ j, j < n → f j = false) (ha : a < 8) (hb : b < 8) (h2 : g a b = true) (h3 : ∀ i j, i < 8 → j < 8 → (i < a ∨ (i = a ∧ j < b)) → g i j = false) : trip z d f n g = (2, (a : Int), (b : Int)) := by
  have e : fstB (prF g) 64 = ((8 * a + b : Nat) : Int) := by
    refine fstB_some ?_ (fun j hj => ?_) 64 (by omega)
    · unfold prF
      rw [show (8 * a + b) / 8 = a by omega, show (8 * a + b) % 8 = b by omega]
      exact h2
    · exact h3 _ _ (by omega) (by omega) (by omega)
  unfold trip
  rw [if_neg h, fstB_none n h1, e, if_neg (fun w => w rfl), if_pos (by omega), show ((8 * a + b : Nat) : Int) / 8 = (a : Int) by omega, show ((8 * a + b : Nat) : Int) % 8 = (b : Int) by omega]
theorem trip_n {z : Prop} {d : Decidable z} {f : Nat → Bool} {n : Nat} {g : Nat → Nat → Bool} (h : ¬ z) (h1 : ∀ j, j < n → f j = false) (h3 : ∀ i j, i < 8 → j < 8 → g i j = false) : trip z d f n g = (-1, -1, -1) := by
  unfold trip
  rw [if_neg h, fstB_none n h1, fstB_none (f := prF g) 64 (fun j hj => h3 (j / 8) (j % 8) (by omega) (by omega)), if_neg (fun w => w rfl), if_neg (fun w => w rfl)]
/-! ===== hush ===== -/
def hsF (N : Sto) (x a : Nat) : Bool := decide (sm (up N 1 a 20) 20 5 x = -1)
def hsG (N : Sto) (x a b : Nat) : Bool := decide (a < b ∧ b < nR N ∧ sm (up (up N 1 a 20) 1 b 20) 20 5 x = -1)
def hsT (N : Sto) (x : Nat) : Int × Int × Int := trip (sm N 20 5 x = -1) inferInstance (hsF N x) (nR N) (hsG N x)
def Few3 (p : Int × Int × Int) (s : Sto) : Prop := s 63 0 = p.1 ∧ s 63 1 = p.2.1 ∧ s 63 2 = p.2.2
theorem few_v {a b c : Int} {s t : Sto} (h : t = S_X2_become a b c s) : Few3 (a, b, c) t ∧ Same (fun x _ => x = 63) s t := by
  unfold S_X2_become at h
  rw [h]
  have hS : Same (fun x _ => x = 63) s (up (up (up s 63 0 a) 63 1 b) 63 2 c) := (((Same.rfl' : Same (fun x _ => x = 63) s s).up rfl).up rfl).up rfl
  refine ⟨⟨?_, ?_, up_at⟩, hS⟩
  · rw [up_j (by decide), up_j (by decide), up_at]
  · rw [up_j (by decide), up_at]
theorem few_pick {p : Int × Int × Int} {s : Sto} {i : Int} (h : Few3 p s) : F_X2_pick i s = pick3 p i := by
  unfold F_X2_pick pick3
  rw [h.1, h.2.1, h.2.2]
theorem Same_63 {s t : Sto} (h : Same (fun x _ => x = 63) s t) : Same DScr s t := h.mono (fun a b q => by unfold DScr; omega)
theorem NtC6_sc {N s t : Sto} (h : NtC N 6 s) (hS : Same DScr s t) : NtC N 6 t := by
  obtain ⟨h1, h2, h3, h4, h5, h6, h7, h8, h9⟩ := h
  have e : ∀ a b, a < 44 → t a b = s a b := fun a b q => hS a b (by unfold DScr; omega)
  exact ⟨by rw [e _ _ (by omega)]; exact h1, by rw [e _ _ (by omega)]; exact h2, by rw [e _ _ (by omega)]; exact h3, by rw [e _ _ (by omega)]; exact h4, fun r hr => by rw [e _ _ (by omega), e _ _ (by omega), e _ _ (by omega), e _ _ (by omega), e _ _ (by omega)]; exact h5 r hr, fun x hx => by rw [e _ _ (by omega), e _ _ (by omega), e _ _ (by omega)]; exact h6 x hx, fun k hk => by rw [e _ _ (by omega)]; exact h7 k hk, fun c hc => by rw [e _ _ (by omega)]; exact h8 c hc, fun i hi => by rw [e _ _ (by omega)]; exact h9 i hi⟩
theorem NOk_1 {N : Sto} {a : Nat} (h : NOk N) : NOk (up N 1 a 20) := NOk_up h (by unfold lgl; omega)
theorem T_chush {N s : Sto} {x : Nat} {Q : Int → Sto → Prop} (hN : NOk N) (hC : NtC N 6 s) (hx : (x : Int) < N 0 6) (k : ∀ t, Few3 (hsT N x) t → Same DScr s t → Q 0 t) : P_X5_seekHush (x : Int) s Q := by
  obtain ⟨n1, n2, n3⟩ := nR8 hN
  unfold P_X5_seekHush
  refine T_becomes hN hC (fun t hCt hSt => ?_)
  have hSt' := Same_tr hSt
  refine T_binds hN hCt hx (fun s3 hC3 hS3 => ?_)
  have hS3' := hSt'.trans (Same_pl hS3)
  by_cases c0 : sm N 20 5 x = -1
  · rw [if_pos c0]
    refine ⟨fun _ s6 e6 => ?_, fun q => absurd rfl q⟩
    obtain ⟨f1, f2⟩ := few_v e6
    exact k s6 (by unfold hsT; rw [trip_0 c0]; exact f1) (hS3'.trans (Same_63 f2))
  rw [if_neg c0]
  refine ⟨fun q => absurd q (by decide), fun _ => ?_⟩
  refine lp2 (L_X5_seekHush_32 (x : Int) _ _) (fun y u => ∃ a : Nat, y = (a : Int) ∧ a ≤ nR N ∧ NtC N 44 u ∧ (∀ j, j < a → hsF N x j = false) ∧ Same DScr s u) (fun y _ => (9 - y).toNat) ?_ 0 s3 ⟨0, rfl, Nat.zero_le _, hC3, fun j q => absurd q (Nat.not_lt_zero j), hS3'⟩
  intro n y u ⟨a, hy, ha, hCu, hf, hSu⟩ ih
  subst hy
  have hw := (ix3 (Nat.le_trans ha n1)).2.2.1
  have hmu := mu9 (Nat.le_trans ha n1)
  unfold L_X5_seekHush_32
  rw [hCu.1, Int.toNat_natCast, hw]
  clear hw
  refine ⟨fun c => ?_, fun c => ?_⟩
  · -- pairs
    have q := n2 a ha c
    subst q
    refine lp2 (L_X5_seekHush_99 (x : Int) _ _) (fun y u => ∃ a : Nat, y = (a : Int) ∧ a ≤ nR N ∧ NtC N 44 u ∧ (∀ i j, i < a → hsG N x i j = false) ∧ Same DScr s u) (fun y _ => (9 - y).toNat) ?_ 0 u ⟨0, rfl, Nat.zero_le _, hCu, fun i j q => absurd q (Nat.not_lt_zero i), hSu⟩
    intro n y u ⟨a, hy, ha, hCu, hg, hSu⟩ ih2
    subst hy
    have hw := (ix3 (Nat.le_trans ha n1)).2.2.1
    have hmu := mu9 (Nat.le_trans ha n1)
    unfold L_X5_seekHush_99
    rw [hCu.1, Int.toNat_natCast, hw]
    clear hw
    refine ⟨fun c => ?_, fun c => ?_⟩
    · have q := n2 a ha c
      subst q
      intro s16 e16
      obtain ⟨f1, f2⟩ := few_v e16
      refine k s16 ?_ (hSu.trans (Same_63 f2))
      unfold hsT
      rw [trip_n c0 hf (fun i j _ _ => ?_)]
      · exact f1
      · cases q : hsG N x i j with
        | false => rfl
        | true =>
          have := of_decide_eq_true q
          rw [hg i j (by omega)] at q
          exact absurd q Bool.false_ne_true
    · obtain ⟨a8, har, a1⟩ := n3 a ha c
      refine ⟨inb8 a8, fun s4 e4 x4 ex4 => ?_⟩
      subst ex4
      have hCa : NtC (up N 1 a 20) 44 s4 := by
        have := NtC_up (a := 1) (b := a) (z := 20) hCu (by omega)
        rw [e4]
        exact this
      have hSa : Same DScr s s4 := by rw [e4]; exact DScr_tr hSu (by omega)
      refine lp2 (L_X5_seekHush_125 (x : Int) (a : Int) _ _) (fun y u => ∃ b : Nat, y = (b : Int) ∧ a < b ∧ b ≤ nR N ∧ NtC (up N 1 a 20) 44 u ∧ (∀ j, j < b → hsG N x a j = false) ∧ Same DScr s u) (fun y _ => (9 - y).toNat) ?_ ((a + 1 : Nat) : Int) s4 ⟨a + 1, rfl, by omega, a1, hCa, fun j hj => decide_eq_false (by omega), hSa⟩
      intro m y v ⟨b, hy, hab, hb, hCv, hgb, hSv⟩ ih3
      subst hy
      have hwb := (ix3 (Nat.le_trans hb n1)).2.2.1
      have hmub := mu9 (Nat.le_trans hb n1)
      unfold L_X5_seekHush_125
      have e44 : v 44 0 = N 0 0 := by rw [hCv.1, up_c (by decide)]
      rw [e44, Int.toNat_natCast, hwb]
      clear hwb
      refine ⟨fun c => ?_, fun c => ?_⟩
      · have q := n2 b hb c
        subst q
        refine ⟨inb8 a8, inb8 a8, fun s10 e10 => ?_⟩
        have h7 : v 7 a = N 1 a := (NtC6_sc hC hSv).2.2.2.2.1 a har |>.1
        rw [h7] at e10
        refine ih2 _ _ ⟨a + 1, rfl, a1, ?_, fun i j hi => ?_, by rw [e10]; exact DScr_tr hSv (by omega)⟩ hmu
        · have := NtC_up (a := 1) (b := a) (z := N 1 a) hCv (by omega)
          rw [up_up, up_self] at this
          rw [e10]
          exact this
        · by_cases w : i = a
          · rw [w]
            rcases Nat.lt_or_ge j (nR N) with w2 | w2
            · exact hgb j w2
            · exact decide_eq_false (by omega)
          · exact hg i j (by omega)
      · obtain ⟨b8, hbr, b1⟩ := n3 b hb c
        refine ⟨inb8 b8, fun s5 e5 => ?_⟩
        have hCb : NtC (up (up N 1 a 20) 1 b 20) 44 s5 := by
          have := NtC_up (a := 1) (b := b) (z := 20) hCv (by omega)
          rw [e5]
          exact this
        have hSb : Same DScr s s5 := by rw [e5]; exact DScr_tr hSv (by omega)
        refine T_binds (NOk_1 (NOk_1 hN)) hCb (by rw [up_c (by decide), up_c (by decide)]; exact hx) (fun s6 hC6 hS6 => ?_)
        have hS6' := hSb.trans (Same_pl hS6)
        by_cases w : sm (up (up N 1 a 20) 1 b 20) 20 5 x = -1
        · rw [if_pos w]
          refine ⟨fun _ s14 e14 => ?_, fun v => absurd rfl v⟩
          obtain ⟨f1, f2⟩ := few_v e14
          refine k s14 ?_ (hS6'.trans (Same_63 f2))
          unfold hsT
          rw [trip_2 c0 hf a8 b8 (decide_eq_true ⟨hab, by omega, w⟩) (fun i j _ _ q => ?_)]
          · exact f1
          · rcases q with q | ⟨q1, q2⟩
            · exact hg i j q
            · rw [q1]; exact hgb j q2
        · rw [if_neg w]
          refine ⟨fun v => absurd v (by decide), fun _ => ⟨inb8 b8, inb8 b8, fun s9 e9 => ?_⟩⟩
          have h7 : s6 7 b = N 1 b := (NtC6_sc hC hS6').2.2.2.2.1 b hbr |>.1
          rw [h7] at e9
          refine ih3 _ _ ⟨b + 1, rfl, by omega, b1, ?_, fun j hj => ?_, by rw [e9]; exact DScr_tr hS6' (by omega)⟩ hmub
          · have := NtC_up (a := 1) (b := b) (z := N 1 b) hC6 (by omega)
            rw [up_up] at this
            have e1 : up (up N 1 a 20) 1 b (N 1 b) = up N 1 a 20 := by
              have : N 1 b = up N 1 a 20 1 b := (up_j (by omega)).symm
              rw [this, up_self]
            rw [e1] at this
            rw [e9]
            exact this
          · by_cases v : j = b
            · rw [v]; exact decide_eq_false (fun q => w q.2.2)
            · exact hgb j (by omega)
  · obtain ⟨a8, har, a1⟩ := n3 a ha c
    refine ⟨inb8 a8, fun s4 e4 => ?_⟩
    have hCa : NtC (up N 1 a 20) 44 s4 := by
      have := NtC_up (a := 1) (b := a) (z := 20) hCu (by omega)
      rw [e4]
      exact this
    have hSa : Same DScr s s4 := by rw [e4]; exact DScr_tr hSu (by omega)
    refine T_binds (NOk_1 hN) hCa (by rw [up_c (by decide)]; exact hx) (fun s6 hC6 hS6 => ?_)
    have hS6' := hSa.trans (Same_pl hS6)
    by_cases w : sm (up N 1 a 20) 20 5 x = -1
    · rw [if_pos w]
      refine ⟨fun _ s9 e9 => ?_, fun v => absurd rfl v⟩
      obtain ⟨f1, f2⟩ := few_v e9
      refine k s9 ?_ (hS6'.trans (Same_63 f2))
      unfold hsT
      rw [trip_1 c0 (by omega : a < nR N) (decide_eq_true w) hf]
      exact f1
    · rw [if_neg w]
      refine ⟨fun v => absurd v (by decide), fun _ => ⟨inb8 a8, inb8 a8, fun s9 e9 => ?_⟩⟩
      have h7 : s6 7 a = N 1 a := (NtC6_sc hC hS6').2.2.2.2.1 a har |>.1
      rw [h7] at e9
      refine ih _ _ ⟨a + 1, rfl, a1, ?_, fun j hj => ?_, by rw [e9]; exact DScr_tr hS6' (by omega)⟩ hmu
      · have := NtC_up (a := 1) (b := a) (z := N 1 a) hC6 (by omega)
        rw [up_up, up_self] at this
        rw [e9]
        exact this
      · by_cases v : j = a
        · rw [v]; exact decide_eq_false w
        · exact hf j (by omega)
theorem T_mspared {N s : Sto} {x : Nat} {g : Int} {Q : Int → Sto → Prop} (hN : NOk (gnN N g)) (hC : NtM N s) (h0 : s 69 25 = 0) (hx : (x : Int) < N 0 6) (k : ∀ t, NtM N t → t 69 25 = 0 → Same DScr s t → Q (if sm (gnN N g) 20 5 x = -1 then 1 else 0) t) : P_X12_isSpared (x : Int) g s Q := by
  have e6 : gnN N g 0 6 = N 0 6 := by unfold gnN; rw [if_neg (fun w => absurd w.1 (by decide))]
  have hx8 : x < 8 := by have := hN.2.1; rw [e6] at this; omega
  unfold P_X12_isSpared
  intro s1 e1
  have hC1 := NtM_gone (g := g) hC h0
  rw [← e1] at hC1
  refine T_lives hN hC1 (fun s2 hP2 _ hS2 s4 e4 => ⟨inb8 hx8, ?_⟩)
  have h5 : s4 85 x = sm (gnN N g) 20 5 x := by rw [e4, up_c (by decide)]; exact (hP2.2.1 x (by rw [e6]; exact hx)).1
  have hS4 : Same DMl s s4 := by
    intro a b hd
    rw [e4]
    by_cases q : a = 69 ∧ b = 25
    · rw [q.1, q.2, up_at, h0]
    · rw [up_c2 q, hS2 a b hd, e1, up_c2 q]
  have kk := k s4 (NtM_cg hC hS4) (by rw [e4, up_at]) (Same_Ml hS4)
  rw [Int.toNat_natCast, h5]
  refine ⟨fun c => ?_, fun c => ?_⟩
  · rw [if_pos c] at kk; exact kk
  · rw [if_neg c] at kk; exact kk
theorem pick_m {p : Int × Int × Int} {a b c v : Int} {s : Sto} {Q : Int → Sto → Prop} (hp : p = (a, b, c)) (h : Q (pick3 p v) s) : (v = (-1) → Q a s) ∧ (¬ v = (-1) → ((v = 0 → Q b s) ∧ (¬ v = 0 → Q c s))) := by
  unfold pick3 at h
  rw [hp] at h
  refine ⟨fun q => ?_, fun q => ⟨fun q2 => ?_, fun q2 => ?_⟩⟩
  · rw [if_pos q] at h; exact h
  · rw [if_neg q, if_pos q2] at h; exact h
  · rw [if_neg q, if_neg q2] at h; exact h
theorem T_mhush {N s : Sto} {x : Nat} {v : Int} {Q : Int → Sto → Prop} (hN : NOk N) (hC : NtM N s) (h0 : s 69 25 = 0) (hx : (x : Int) < N 0 6) (k : ∀ t, NtM N t → Same DScr s t → Q (pick3 (hsT N x) v) t) : P_X12_hushOf (x : Int) v s Q := by
  obtain ⟨n1, n2, n3⟩ := nR8 hN
  unfold P_X12_hushOf
  refine T_mspared (by rw [gnN_0]; exact hN) hC h0 hx (fun s1 hC1 h01 hS1 => ?_)
  rw [gnN_0]
  by_cases c0 : sm N 20 5 x = -1
  · rw [if_pos c0]
    refine ⟨fun q => absurd q (by decide), fun _ => ?_⟩
    obtain ⟨m1, m2⟩ := pick_m (p := hsT N x) (a := 0) (b := -1) (c := -1) (v := v) (s := s1) (Q := Q) (by unfold hsT; exact trip_0 c0) (k s1 hC1 hS1)
    exact ⟨m1, fun q => by
      by_cases q2 : v = 0
      · exact (m2 q).1 q2
      · exact (m2 q).2 q2⟩
  rw [if_neg c0]
  refine ⟨fun _ => ?_, fun q => absurd rfl q⟩
  refine lp2 (L_X12_hushOf_22 (x : Int) v _ _) (fun y u => ∃ a : Nat, y = (a : Int) ∧ a ≤ nR N ∧ NtM N u ∧ u 69 25 = 0 ∧ (∀ j, j < a → hsF N x j = false) ∧ Same DScr s u) (fun y _ => (9 - y).toNat) ?_ 0 s1 ⟨0, rfl, Nat.zero_le _, hC1, h01, fun j q => absurd q (Nat.not_lt_zero j), hS1⟩
  intro n y u ⟨a, hy, ha, hCu, h0u, hf, hSu⟩ ih
  subst hy
  have hw := (ix3 (Nat.le_trans ha n1)).2.2.1
  have hmu := mu9 (Nat.le_trans ha n1)
  unfold L_X12_hushOf_22
  rw [hCu.1, hw]
  clear hw
  refine ⟨fun c => ?_, fun c => ?_⟩
  · have q := n2 a ha c
    subst q
    refine lp2 (L_X12_hushOf_68 (x : Int) v _ _) (fun y u => ∃ a : Nat, y = (a : Int) ∧ a ≤ nR N ∧ NtM N u ∧ u 69 25 = 0 ∧ (∀ i j, i < a → hsG N x i j = false) ∧ Same DScr s u) (fun y _ => (9 - y).toNat) ?_ 0 u ⟨0, rfl, Nat.zero_le _, hCu, h0u, fun i j q => absurd q (Nat.not_lt_zero i), hSu⟩
    intro n y u ⟨a, hy, ha, hCu, h0u, hg, hSu⟩ ih2
    subst hy
    have hw := (ix3 (Nat.le_trans ha n1)).2.2.1
    have hmu := mu9 (Nat.le_trans ha n1)
    unfold L_X12_hushOf_68
    rw [hCu.1, hw]
    clear hw
    refine ⟨fun c => ?_, fun c x2 ex2 => ?_⟩
    · have q := n2 a ha c
      subst q
      have kk := k u hCu hSu
      have e : hsT N x = (-1, -1, -1) := by
        unfold hsT
        refine trip_n c0 hf (fun i j _ _ => ?_)
        cases q : hsG N x i j with
        | false => rfl
        | true =>
          have := of_decide_eq_true q
          rw [hg i j (by omega)] at q
          exact absurd q Bool.false_ne_true
      rw [e] at kk
      unfold pick3 at kk
      have e2 : (if v = -1 then (-1, -1, -1).1 else if v = 0 then ((-1, -1, -1) : Int × Int × Int).2.1 else ((-1, -1, -1) : Int × Int × Int).2.2) = -1 := by
        by_cases q1 : v = -1
        · rw [if_pos q1]
        · rw [if_neg q1]
          by_cases q2 : v = 0
          · rw [if_pos q2]
          · rw [if_neg q2]
      rw [e2] at kk
      exact kk
    · obtain ⟨a8, har, a1⟩ := n3 a ha c
      subst ex2
      refine lp2 (L_X12_hushOf_81 (x : Int) v (a : Int) _ _) (fun y u => ∃ b : Nat, y = (b : Int) ∧ a < b ∧ b ≤ nR N ∧ NtM N u ∧ u 69 25 = 0 ∧ (∀ j, j < b → hsG N x a j = false) ∧ Same DScr s u) (fun y _ => (9 - y).toNat) ?_ ((a + 1 : Nat) : Int) u ⟨a + 1, rfl, by omega, a1, hCu, h0u, fun j hj => decide_eq_false (by omega), hSu⟩
      intro m y w ⟨b, hy, hab, hb, hCv, h0v, hgb, hSv⟩ ih3
      subst hy
      have hwb := (ix3 (Nat.le_trans hb n1)).2.2.1
      have hmub := mu9 (Nat.le_trans hb n1)
      unfold L_X12_hushOf_81
      rw [hCv.1, hwb]
      clear hwb
      refine ⟨fun c => ?_, fun c => ?_⟩
      · have q := n2 b hb c
        subst q
        refine ih2 _ _ ⟨a + 1, rfl, a1, hCv, h0v, fun i j hi => ?_, hSv⟩ hmu
        by_cases q : i = a
        · rw [q]
          rcases Nat.lt_or_ge j (nR N) with w2 | w2
          · exact hgb j w2
          · exact decide_eq_false (by omega)
        · exact hg i j (by omega)
      · obtain ⟨b8, hbr, b1⟩ := n3 b hb c
        have eg : gnN N (iO (iShl 1 (a : Int)) (iShl 1 (b : Int))) = up (up N 1 a 20) 1 b 20 := gnN_2 (by omega) (by omega)
        refine T_mspared (by rw [eg]; exact NOk_1 (NOk_1 hN)) hCv h0v hx (fun s2 hC2 h02 hS2 => ?_)
        rw [eg]
        by_cases q : sm (up (up N 1 a 20) 1 b 20) 20 5 x = -1
        · rw [if_pos q]
          refine ⟨fun w => absurd w (by decide), fun _ => ?_⟩
          exact pick_m (p := hsT N x) (by
            unfold hsT
            refine trip_2 c0 hf a8 b8 (decide_eq_true ⟨hab, by omega, q⟩) (fun i j _ _ q => ?_)
            rcases q with q | ⟨q1, q2⟩
            · exact hg i j q
            · rw [q1]; exact hgb j q2) (k s2 hC2 (hSv.trans hS2))
        · rw [if_neg q]
          refine ⟨fun _ => ih3 _ _ ⟨b + 1, rfl, by omega, b1, hC2, h02, fun j hj => ?_, hSv.trans hS2⟩ hmub, fun w => absurd rfl w⟩
          by_cases v : j = b
          · rw [v]; exact decide_eq_false (fun w => q w.2.2)
          · exact hgb j (by omega)
  · obtain ⟨a8, har, a1⟩ := n3 a ha c
    have eg : gnN N (iShl 1 (a : Int)) = up N 1 a 20 := gnN_1 (by omega)
    refine T_mspared (by rw [eg]; exact NOk_1 hN) hCu h0u hx (fun s2 hC2 h02 hS2 => ?_)
    rw [eg]
    by_cases q : sm (up N 1 a 20) 20 5 x = -1
    · rw [if_pos q]
      refine ⟨fun w => absurd w (by decide), fun _ => ?_⟩
      exact pick_m (p := hsT N x) (by
        unfold hsT
        exact trip_1 c0 (by omega : a < nR N) (decide_eq_true q) hf) (k s2 hC2 (hSu.trans hS2))
    · rw [if_neg q]
      refine ⟨fun _ => ih _ _ ⟨a + 1, rfl, a1, hC2, h02, fun j hj => ?_, hSu.trans hS2⟩ hmu, fun w => absurd rfl w⟩
      by_cases v : j = a
      · rw [v]; exact decide_eq_false q
      · exact hf j (by omega)
theorem R_hush {v1 v2 : Int} {s : Sto} (h : Rel s) : P_X11_hush v1 v2 s (fun r s1 => P_X12_hush v1 v2 s1 (fun r2 s2 => r2 = r ∧ Rel s2)) := by
  have hN := tN_ok h
  have bad : ¬ ((0 ≤ v1 ∧ v1 < tN s 0 6) ∧ (-1 ≤ v2 ∧ v2 ≤ 1)) → P_X12_hush v1 v2 s (fun r2 s2 => r2 = -2 ∧ Rel s2) := by
    intro c
    unfold P_X12_hush
    refine T_findR h rfl (fun t t1 t2 t3 t4 t5 t6 => ?_)
    exact ⟨fun _ => ⟨rfl, t1⟩, fun q1 => ⟨fun _ => ⟨rfl, t1⟩, fun q2 => absurd ⟨yy (isTM hN t2) q1, yy in_0 q2⟩ c⟩⟩
  unfold P_X11_hush
  refine ⟨fun q => bad (fun w => (isTC h).mp q w.1), fun q1 => ⟨fun q => bad (fun w => within_0.mp q w.2), fun q2 => ?_⟩⟩
  have c1 := yy (isTC h) q1
  have c2 := yy within_0 q2
  obtain ⟨x, rfl⟩ := Int.eq_ofNat_of_zero_le c1.1
  refine T_chush hN tN_NtC c1.2 (fun t hF hSt => ?_)
  obtain ⟨hRt, eNt⟩ := Rel_sc h hSt
  rw [few_pick hF]
  unfold P_X12_hush
  refine T_findR hRt eNt (fun u u1 u2 u3 u4 u5 u6 => ?_)
  exact ⟨fun q => absurd q (nn (isTM hN u2) c1), fun _ => ⟨fun q => absurd q (nn in_0 c2), fun _ => T_mhush hN u2 u1.2.2.2.2.2.2.1.1 c1.2 (fun w w1 w2 => ⟨rfl, (Rel_sc u1 w2).1⟩)⟩⟩
