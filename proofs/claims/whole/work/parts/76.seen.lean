/-! ===== what was seen; never, paces ===== -/
def sgB (N : Sto) (th oc : Nat → Int) (i : Nat) : Bool := decide (th i < N 0 6 ∧ (if whm N (sm N 20) (th i).toNat = -1 then 4 else whm N (sm N 20) (th i).toNat) = oc i)
def soB (N : Sto) (n : Nat) (th oc : Nat → Int) : Bool := !(anyB (fun i => !(sgB N th oc i)) n)
theorem soB_t {N : Sto} {n : Nat} {th oc : Nat → Int} (h : ∀ i, i < n → sgB N th oc i = true) : soB N n th oc = true := by
  unfold soB
  cases q : anyB (fun i => !(sgB N th oc i)) n with
  | false => rfl
  | true =>
    obtain ⟨i, h1, h2⟩ := (anyB_iff n).mp q
    rw [h i h1] at h2
    exact absurd h2 Bool.false_ne_true
theorem soB_f {N : Sto} {n i : Nat} {th oc : Nat → Int} (hi : i < n) (h : sgB N th oc i = false) : soB N n th oc = false := by
  unfold soB
  have : anyB (fun i => !(sgB N th oc i)) n = true := (anyB_iff n).mpr ⟨i, hi, by rw [h]; rfl⟩
  rw [this]
  rfl
def SgC (n : Nat) (th oc : Nat → Int) (s : Sto) : Prop := s 26 2 = (n : Int) ∧ n ≤ 8 ∧ ∀ i, i < n → s 27 i = th i ∧ s 28 i = oc i ∧ (0 ≤ th i ∧ th i ≤ 7) ∧ (0 ≤ oc i ∧ oc i ≤ 4)
def SgM (n : Nat) (th oc : Nat → Int) (s : Sto) : Prop := s 69 27 = (n : Int) ∧ n ≤ 8 ∧ ∀ i, i < n → s 87 (2 * i) = th i ∧ s 87 (2 * i + 1) = oc i ∧ (0 ≤ th i ∧ th i ≤ 7) ∧ (0 ≤ oc i ∧ oc i ≤ 4)
theorem SgC_cg {n : Nat} {th oc : Nat → Int} {s t : Sto} (h : SgC n th oc s) (hS : ∀ a b, 26 ≤ a → a ≤ 28 → t a b = s a b) : SgC n th oc t := by
  obtain ⟨h1, h2, h3⟩ := h
  refine ⟨by rw [hS _ _ (by omega) (by omega)]; exact h1, h2, fun i hi => ?_⟩
  rw [hS _ _ (by omega) (by omega), hS _ _ (by omega) (by omega)]
  exact h3 i hi
theorem SgM_cg {n : Nat} {th oc : Nat → Int} {s t : Sto} (h : SgM n th oc s) (hS : ∀ a b, (a = 69 ∧ b = 27) ∨ a = 87 → t a b = s a b) : SgM n th oc t := by
  obtain ⟨h1, h2, h3⟩ := h
  refine ⟨by rw [hS _ _ (by omega)]; exact h1, h2, fun i hi => ?_⟩
  rw [hS _ _ (by omega), hS _ _ (by omega)]
  exact h3 i hi
theorem Rel_sg {s : Sto} (h : Rel s) : SgC (s 69 27).toNat (s 27) (s 28) s ∧ SgM (s 69 27).toNat (s 27) (s 28) s := by
  obtain ⟨h1, h2, h3⟩ := h.2.2.2.1
  refine ⟨⟨by rw [h1]; omega, by omega, fun i hi => ?_⟩, ⟨by omega, by omega, fun i hi => ?_⟩⟩
  · obtain ⟨a1, a2, a3, a4⟩ := h3 i (by omega)
    rw [a1, a2]
    exact ⟨rfl, rfl, a3, a4⟩
  · obtain ⟨a1, a2, a3, a4⟩ := h3 i (by omega)
    rw [a1, a2]
    exact ⟨rfl, rfl, a3, a4⟩
theorem outc_v {N σ s : Sto} {x : Nat} (hP : Ply N 54 σ s) (hx8 : x < 8) (hx : (x : Int) < N 0 6) : F_X6_outcome 54 (x : Int) s = (if whm N σ x = -1 then 4 else whm N σ x) ∧ O_X6_outcome 54 (x : Int) s := by
  have h7 : s 61 x = whm N σ x := (hP.2.1 x hx).2.2
  unfold F_X6_outcome O_X6_outcome
  rw [Int.toNat_natCast]
  rw [show s (54 + 7) x = whm N σ x from h7]
  exact ⟨rfl, inb8 hx8, fun _ => trivial, fun _ => ⟨inb8 hx8, trivial⟩⟩
theorem T_allSo {N s : Sto} {n : Nat} {th oc : Nat → Int} {Q : Int → Sto → Prop} (hN : NOk N) (hC : NtC N 44 s) (hP : Ply N 54 (sm N 20) s) (hG : SgC n th oc s) (k : Q (if soB N n th oc = true then 1 else 0) s) : P_X8_allSo 44 54 s Q := by
  have h6 := hN.2.1
  obtain ⟨g1, g2, g3⟩ := hG
  unfold P_X8_allSo
  refine lp1 (L_X8_allSo_2 44 54 s _ _) (fun y => ∃ i : Nat, y = (i : Int) ∧ i ≤ n ∧ (∀ j, j < i → sgB N th oc j = true)) (fun y => (9 - y).toNat) ?_ 0 ⟨0, rfl, Nat.zero_le _, fun j q => absurd q (Nat.not_lt_zero j)⟩
  intro m y ⟨i, hy, hi, hf⟩ ih
  subst hy
  have hw := (ix3 (Nat.le_trans hi g2)).2.2.1
  have hmu := mu9 (Nat.le_trans hi g2)
  unfold L_X8_allSo_2
  rw [g1, Int.toNat_natCast, hw]
  clear hw
  refine ⟨fun c => ?_, fun c => ?_⟩
  · have : i = n := by omega
    subst this
    rw [if_pos (soB_t hf)] at k
    exact k
  · have hin : i < n := by omega
    obtain ⟨a1, a2, a3, a4⟩ := g3 i hin
    have e6 : s 44 6 = N 0 6 := hC.2.1
    have no : sgB N th oc i = false → Q 0 s := fun q => by
      rw [soB_f hin q, if_neg Bool.false_ne_true] at k
      exact k
    rw [a1, a2, e6]
    refine ⟨inb8 (by omega), fun c2 => no (decide_eq_false (fun q => by have := q.1; omega)), fun c2 => ⟨inb8 (by omega), ?_⟩⟩
    obtain ⟨x, hx⟩ := Int.eq_ofNat_of_zero_le a3.1
    obtain ⟨o1, o2⟩ := outc_v (x := x) hP (by omega) (by omega)
    rw [hx, o1]
    refine ⟨o2, inb8 (by omega), fun c3 => ih _ ⟨i + 1, rfl, hin, fun j hj => ?_⟩ hmu, fun c3 => no (decide_eq_false (fun q => ?_))⟩
    · by_cases w : j = i
      · rw [w]
        refine decide_eq_true ⟨by omega, ?_⟩
        rw [hx, Int.toNat_natCast]
        exact c3
      · exact hf j (by omega)
    · have q2 := q.2
      rw [hx, Int.toNat_natCast] at q2
      exact c3 q2
theorem T_comes {N s : Sto} {n : Nat} {th oc : Nat → Int} {Q : Int → Sto → Prop} (hN : NOk N) (hC : NtC N 44 s) (hG : SgC n th oc s) (k : ∀ t, NtC N 44 t → Same (DPl 54) s t → Q (if soB N n th oc = true then 1 else 0) t) : P_X3_comesOut s Q := by
  unfold P_X3_comesOut
  refine ⟨fun c => ?_, fun c => ?_⟩
  · have : n = 0 := by have := hG.1; omega
    have e : soB N n th oc = true := soB_t (fun i hi => by omega)
    have kk := k s hC Same.rfl'
    rw [if_pos e] at kk
    exact kk
  · refine T_playAll (Or.inr rfl) (Or.inr rfl) hN hC (fun t hP hS => ?_)
    have hCt := NtC_cg (Or.inr rfl) (Or.inr rfl) hC hS
    refine T_allSo hN hCt hP (SgC_cg hG (fun a b q1 q2 => hS a b (by unfold DPl; omega))) ⟨?_, k t hCt hS⟩
    split
    · exact Or.inr rfl
    · exact Or.inl rfl
theorem ix2v {i : Nat} (h : i < 8) : w32 (2 * (i : Int)) = 2 * (i : Int) ∧ (2 * (i : Int)).toNat = 2 * i ∧ inb (2 * (i : Int)) 16 := by
  refine ⟨w32_of (by omega) (by omega), by omega, by omega, by omega⟩
theorem ix2w {i : Nat} (h : i < 8) : w32 (2 * (i : Int) + 1) = 2 * (i : Int) + 1 ∧ (2 * (i : Int) + 1).toNat = 2 * i + 1 ∧ inb (2 * (i : Int) + 1) 16 := by
  refine ⟨w32_of (by omega) (by omega), by omega, by omega, by omega⟩
theorem whm_rng {N : Sto} {x : Nat} (hN : NOk N) (hx : (x : Int) < N 0 6) : -1 ≤ whm N (sm N 20) x ∧ whm N (sm N 20) x ≤ 3 := by
  have hI := (sm_inv hN 20 (Nat.le_refl 20)).1.2 x hx
  unfold whm
  split
  · omega
  · have := (hN.2.2.2.2.1 (sm N 20 5 x).toNat (by omega)).2.2.2.2
    omega
theorem T_isSeen {N s : Sto} {n : Nat} {th oc : Nat → Int} {Q : Int → Sto → Prop} (hN : NOk N) (hC : NtM N s) (hG : SgM n th oc s) (k : ∀ t, PlM N (sm N 20) t → Same DMl s t → Q (if soB N n th oc = true then 1 else 0) t) : P_X12_isSeen s Q := by
  have h6 := hN.2.1
  have hI := (sm_inv hN 20 (Nat.le_refl 20)).1.2
  unfold P_X12_isSeen
  refine T_lives hN hC (fun t hP _ hS => ?_)
  have hCt := NtM_cg hC hS
  obtain ⟨g1, g2, g3⟩ := SgM_cg (t := t) hG (fun a b q => hS a b (by unfold DMl; omega))
  have kk := k t hP hS
  refine lp2 (L_X12_isSeen_8 t _) (fun v y => ∃ i : Nat, y = (i : Int) ∧ i ≤ n ∧ ((v = 1 ∧ ∀ j, j < i → sgB N th oc j = true) ∨ (v = 0 ∧ soB N n th oc = false))) (fun _ y => (9 - y).toNat) ?_ 1 0 ⟨0, rfl, Nat.zero_le _, Or.inl ⟨rfl, fun j q => absurd q (Nat.not_lt_zero j)⟩⟩
  intro m v y ⟨i, hy, hi, hf⟩ ih
  subst hy
  have hw := (ix3 (Nat.le_trans hi g2)).2.2.1
  have hmu := mu9 (Nat.le_trans hi g2)
  have fin : (v = 0 ∨ i = n) → (v = 0 ∨ v = 1) ∧ Q v t := by
    intro q
    rcases hf with ⟨q1, q2⟩ | ⟨q1, q2⟩
    · have hin : i = n := q.elim (fun w => by omega) id
      subst hin
      rw [if_pos (soB_t q2)] at kk
      rw [q1]
      exact ⟨Or.inr rfl, kk⟩
    · rw [q2, if_neg Bool.false_ne_true] at kk
      rw [q1]
      exact ⟨Or.inl rfl, kk⟩
  unfold L_X12_isSeen_8
  rw [g1, hw]
  clear hw
  refine ⟨fun c => fin (Or.inr (by omega)), fun c => ⟨fun c2 => fin (Or.inl c2), fun c2 => ?_⟩⟩
  have hin : i < n := by omega
  have hv1 : v = 1 ∧ ∀ j, j < i → sgB N th oc j = true := hf.elim id (fun q => absurd q.1 c2)
  obtain ⟨a1, a2, a3, a4⟩ := g3 i hin
  obtain ⟨i1, i2, i3⟩ := ix2v (i := i) (by omega)
  rw [i1, i2]
  clear i1
  obtain ⟨j1, j2, j3⟩ := ix2w (i := i) (by omega)
  rw [j1, j2, a1, a2]
  clear j1
  refine ⟨i3, fun x4 e4 => ?_⟩
  obtain ⟨x, hx⟩ := Int.eq_ofNat_of_zero_le a3.1
  rw [hx] at e4
  subst e4
  have g := isTM (v := (x : Int)) hN hCt
  refine ⟨⟨fun _ => trivial, fun q => ?_⟩, fun x6 e6 => ?_⟩
  · have q2 := yy g q
    exact ⟨(mwhom_v hN hCt hP hI q2.2).2, j3, fun _ => trivial, fun _ => ⟨j3, trivial⟩⟩
  · refine ih _ _ ⟨i + 1, rfl, hin, ?_⟩ hmu
    have key : (x6 = 1 ∧ sgB N th oc i = true) ∨ (x6 = 0 ∧ sgB N th oc i = false) := by
      by_cases c3 : (x : Int) < N 0 6
      · rw [if_neg (nn g ⟨by omega, c3⟩), (mwhom_v hN hCt hP hI c3).1] at e6
        have hr := whm_rng hN c3
        have e : sgB N th oc i = decide ((if whm N (sm N 20) x = -1 then 4 else whm N (sm N 20) x) = oc i) := by
          unfold sgB
          rw [hx, Int.toNat_natCast]
          by_cases w : (if whm N (sm N 20) x = -1 then 4 else whm N (sm N 20) x) = oc i
          · rw [decide_eq_true w, decide_eq_true ⟨c3, w⟩]
          · rw [decide_eq_false w, decide_eq_false (fun z => w z.2)]
        rw [e]
        by_cases c4 : oc i = 4
        · rw [if_pos c4] at e6
          by_cases c5 : whm N (sm N 20) x = -1
          · rw [if_pos c5] at e6
            rw [if_pos c5]
            exact Or.inl ⟨e6, decide_eq_true c4.symm⟩
          · rw [if_neg c5] at e6
            rw [if_neg c5]
            exact Or.inr ⟨e6, decide_eq_false (by omega)⟩
        · rw [if_neg c4] at e6
          by_cases c5 : whm N (sm N 20) x = -1
          · rw [if_neg (by omega)] at e6
            rw [if_pos c5]
            exact Or.inr ⟨e6, decide_eq_false (by omega)⟩
          · rw [if_neg c5]
            by_cases c6 : whm N (sm N 20) x = oc i
            · rw [if_pos c6] at e6; exact Or.inl ⟨e6, decide_eq_true c6⟩
            · rw [if_neg c6] at e6; exact Or.inr ⟨e6, decide_eq_false c6⟩
      · rw [if_pos (g.mpr (fun w => c3 w.2))] at e6
        exact Or.inr ⟨e6, decide_eq_false (fun w => by have := w.1; omega)⟩
    rcases key with ⟨q1, q2⟩ | ⟨q1, q2⟩
    · refine Or.inl ⟨q1, fun j hj => ?_⟩
      by_cases w : j = i
      · rw [w]; exact q2
      · exact hv1.2 j (by omega)
    · exact Or.inr ⟨q1, soB_f hin q2⟩
/-! ===== never ===== -/
def nvB (N : Sto) (n : Nat) (th oc : Nat → Int) : Int := bitsB (fun r => soB (up N 1 r 20) n th oc) (nR N)
theorem T_cnever {N s : Sto} {n : Nat} {th oc : Nat → Int} {Q : Int → Sto → Prop} (hN : NOk N) (hC : NtC N 6 s) (hG : SgC n th oc s) (k : ∀ t, Same DScr s t → Q (nvB N n th oc) t) : P_X3_neverBits s Q := by
  obtain ⟨n1, n2, n3⟩ := nR8 hN
  unfold P_X3_neverBits
  refine T_becomes hN hC (fun t hCt hSt => ?_)
  refine lp3 (L_X3_neverBits_15 _) (fun x y u => ∃ i : Nat, y = (i : Int) ∧ i ≤ nR N ∧ x = bitsB (fun r => soB (up N 1 r 20) n th oc) i ∧ NtC N 44 u ∧ Same DScr s u) (fun _ y _ => (9 - y).toNat) ?_ 0 0 t ⟨0, rfl, Nat.zero_le _, rfl, hCt, Same_tr hSt⟩
  intro m x y u ⟨i, hy, hi, hx, hCu, hSu⟩ ih
  subst hy
  have hw := (ix3 (Nat.le_trans hi n1)).2.2.1
  have hmu := mu9 (Nat.le_trans hi n1)
  unfold L_X3_neverBits_15
  rw [hCu.1, Int.toNat_natCast, hw]
  clear hw
  refine ⟨fun c => ?_, fun c => ?_⟩
  · have q := n2 i hi c
    subst q
    rw [hx]
    exact k u hSu
  · obtain ⟨i8, hir, i1⟩ := n3 i hi c
    refine ⟨inb8 i8, fun s3 e3 => ?_⟩
    have hC3 : NtC (up N 1 i 20) 44 s3 := by
      have := NtC_up (a := 1) (b := i) (z := 20) hCu (by omega)
      rw [e3]
      exact this
    have hS3 : Same DScr s s3 := by rw [e3]; exact DScr_tr hSu (by omega)
    refine T_comes (NOk_1 hN) hC3 (SgC_cg hG (fun a b q1 q2 => hS3 a b (by unfold DScr; omega))) (fun s4 hC4 hS4 => ?_)
    have hS4' := hS3.trans (Same_pl hS4)
    have h7 : s4 7 i = N 1 i := (NtC6_sc hC hS4').2.2.2.2.1 i hir |>.1
    have hC9 : NtC N 44 (up s4 45 i (N 1 i)) := by
      have := NtC_up (a := 1) (b := i) (z := N 1 i) hC4 (by omega)
      rw [up_up, up_self] at this
      exact this
    rw [h7]
    refine ⟨fun q => ⟨inb8 i8, inb8 i8, fun s9 e9 => ih _ _ _ ⟨i + 1, rfl, i1, ?_, by rw [e9]; exact hC9, by rw [e9]; exact DScr_tr hS4' (by omega)⟩ hmu⟩, fun q x10 e10 => ⟨inb8 i8, inb8 i8, fun s13 e13 => ih _ _ _ ⟨i + 1, rfl, i1, ?_, by rw [e13]; exact hC9, by rw [e13]; exact DScr_tr hS4' (by omega)⟩ hmu⟩⟩
    · rw [bitsB_s]
      cases w : soB (up N 1 i 20) n th oc with
      | true => rw [w, if_pos rfl] at q; exact absurd q (by decide)
      | false => rw [if_neg Bool.false_ne_true]; exact hx
    · rw [bitsB_s]
      cases w : soB (up N 1 i 20) n th oc with
      | true => rw [if_pos rfl, e10, hx]
      | false => rw [w, if_neg Bool.false_ne_true] at q; exact absurd rfl q
theorem T_mnever {N s : Sto} {n : Nat} {th oc : Nat → Int} {Q : Int → Sto → Prop} (hN : NOk N) (hC : NtM N s) (h0 : s 69 25 = 0) (hG : SgM n th oc s) (k : ∀ t, NtM N t → t 69 25 = 0 → Same DScr s t → Q (nvB N n th oc) t) : P_X12_neverNow s Q := by
  obtain ⟨n1, n2, n3⟩ := nR8 hN
  have hz : up s 69 25 0 = s := by rw [← h0, up_self]
  unfold P_X12_neverNow
  refine lp3 (L_X12_neverNow_4 _) (fun x y u => ∃ i : Nat, y = (i : Int) ∧ i ≤ nR N ∧ x = bitsB (fun r => soB (up N 1 r 20) n th oc) i ∧ NtM N (up u 69 25 0) ∧ Same DScr s (up u 69 25 0)) (fun _ y _ => (9 - y).toNat) ?_ 0 0 s ⟨0, rfl, Nat.zero_le _, rfl, by rw [hz]; exact hC, by rw [hz]; exact Same.rfl'⟩
  intro m x y u ⟨i, hy, hi, hx, hCu, hSu⟩ ih
  subst hy
  have hw := (ix3 (Nat.le_trans hi n1)).2.2.1
  have hmu := mu9 (Nat.le_trans hi n1)
  have e14 : u 69 14 = N 0 0 := by have := hCu.1; rw [up_j (by decide)] at this; exact this
  unfold L_X12_neverNow_4
  rw [e14, hw]
  clear hw
  refine ⟨fun c s3 e3 => ?_, fun c s2 e2 => ?_⟩
  · have q := n2 i hi c
    subst q
    rw [hx]
    exact k s3 (by rw [e3]; exact hCu) (by rw [e3, up_at]) (by rw [e3]; exact hSu)
  · obtain ⟨i8, hir, i1⟩ := n3 i hi c
    have hC2 := NtM_gone (g := iShl 1 (i : Int)) hCu up_at
    rw [up_up, gnN_1 (by omega), ← e2] at hC2
    have hG2 : SgM n th oc s2 := SgM_cg hG (fun a b q => by
      have := hSu a b (by unfold DScr; omega)
      rw [up_c2 (by omega)] at this
      rw [e2, up_c2 (by omega)]; exact this)
    refine T_isSeen (NOk_1 hN) hC2 hG2 (fun s3 hP3 hS3 x5 e5 x7 e7 => ?_)
    have hS : Same DMl (up u 69 25 0) (up s3 69 25 0) := by
      intro a d hd
      by_cases q : a = 69 ∧ d = 25
      · rw [q.1, q.2, up_at, up_at]
      · rw [up_c2 q, up_c2 q, hS3 a d hd, e2, up_c2 q]
    refine ih _ _ _ ⟨i + 1, rfl, i1, ?_, NtM_cg hCu hS, hSu.trans (Same_Ml hS)⟩ hmu
    rw [bitsB_s, e7, e5, hx]
    cases w : soB (up N 1 i 20) n th oc with
    | true => rw [if_pos rfl, if_neg (by decide), if_pos rfl]
    | false => rw [if_neg Bool.false_ne_true, if_pos rfl, if_neg Bool.false_ne_true, iO_0 (bitsB_r _ _)]
theorem R_never {s : Sto} (h : Rel s) : P_X11_never s (fun r s1 => P_X12_never s1 (fun r2 s2 => r2 = r ∧ Rel s2)) := by
  have hN := tN_ok h
  obtain ⟨g1, g2⟩ := Rel_sg h
  unfold P_X11_never
  refine T_cnever hN tN_NtC g1 (fun t hSt => ?_)
  obtain ⟨hRt, eNt⟩ := Rel_sc h hSt
  unfold P_X12_never
  refine T_findR hRt eNt (fun u u1 u2 u3 u4 u5 u6 => ?_)
  exact T_mnever hN u2 u1.2.2.2.2.2.2.1.1 (SgM_cg g2 (fun a b q => (hSt.trans u6) a b (by unfold DScr; omega))) (fun w w1 w2 w3 => ⟨rfl, (Rel_sc u1 w3).1⟩)
/-! ===== paces ===== -/
def pcB (N : Sto) (n : Nat) (th oc : Nat → Int) : Int := bitsB (fun v => decide (1 ≤ v) && soB (up N 0 11 (v : Int)) n th oc) 5
theorem T_cpaces {N s : Sto} {n : Nat} {th oc : Nat → Int} {Q : Int → Sto → Prop} (hN : NOk N) (hC : NtC N 6 s) (hG : SgC n th oc s) (k : ∀ t, Same DScr s t → Q (pcB N n th oc) t) : P_X3_paceBits s Q := by
  unfold P_X3_paceBits
  refine T_becomes hN hC (fun t hCt hSt => ?_)
  refine lp3 (L_X3_paceBits_15 _) (fun x y u => ∃ i : Nat, y = (i : Int) ∧ 1 ≤ i ∧ i ≤ 5 ∧ x = bitsB (fun v => decide (1 ≤ v) && soB (up N 0 11 (v : Int)) n th oc) i ∧ (∃ z, NtC (up N 0 11 z) 44 u) ∧ Same DScr s u) (fun _ y _ => (9 - y).toNat) ?_ 0 1 t ⟨1, rfl, by omega, by omega, rfl, ⟨N 0 11, by rw [up_self]; exact hCt⟩, Same_tr hSt⟩
  intro m x y u ⟨i, hy, h1i, hi, hx, ⟨z, hCu⟩, hSu⟩ ih
  subst hy
  have hw := (ix3 (j := i) (by omega)).2.2.1
  have hmu := mu9 (j := i) (by omega)
  unfold L_X3_paceBits_15
  rw [hw]
  clear hw
  refine ⟨fun c => ?_, fun c s2 e2 => ?_⟩
  · have : i = 5 := by omega
    subst this
    rw [hx]
    exact k u hSu
  · have hC2 : NtC (up N 0 11 (i : Int)) 44 s2 := by
      have := NtC_wd (z := (i : Int)) hCu
      rw [up_up] at this
      rw [e2]
      exact this
    have hS2 : Same DScr s s2 := by rw [e2]; exact DScr_tr hSu (by omega)
    have hd : decide (1 ≤ i) = true := decide_eq_true h1i
    refine T_comes (NOk_wd hN (by omega)) hC2 (SgC_cg hG (fun a b q1 q2 => hS2 a b (by unfold DScr; omega))) (fun s3 hC3 hS3 => ?_)
    have hS3' := hS2.trans (Same_pl hS3)
    refine ⟨fun q => ih _ _ _ ⟨i + 1, rfl, by omega, by omega, ?_, ⟨_, hC3⟩, hS3'⟩ hmu, fun q x6 e6 => ih _ _ _ ⟨i + 1, rfl, by omega, by omega, ?_, ⟨_, hC3⟩, hS3'⟩ hmu⟩
    · rw [bitsB_s, hd, Bool.true_and]
      cases w : soB (up N 0 11 (i : Int)) n th oc with
      | true => rw [w, if_pos rfl] at q; exact absurd q (by decide)
      | false => rw [if_neg Bool.false_ne_true]; exact hx
    · rw [bitsB_s, hd, Bool.true_and]
      cases w : soB (up N 0 11 (i : Int)) n th oc with
      | true => rw [if_pos rfl, e6, hx]
      | false => rw [w, if_neg Bool.false_ne_true] at q; exact absurd rfl q
theorem T_mpaces {N s : Sto} {n : Nat} {th oc : Nat → Int} {Q : Int → Sto → Prop} (hN : NOk N) (hC : NtM N s) (hG : SgM n th oc s) (k : ∀ t, NtM N t → Same DScr s t → Q (pcB N n th oc) t) : P_X12_pacesNow s Q := by
  unfold P_X12_pacesNow
  intro x1 e1
  have e1' : x1 = N 0 11 := by rw [e1]; exact hC.2.2.1
  have hz : up s 69 13 x1 = s := by rw [e1, up_self]
  refine lp3 (L_X12_pacesNow_9 x1 _) (fun x y u => ∃ i : Nat, y = (i : Int) ∧ 1 ≤ i ∧ i ≤ 5 ∧ x = bitsB (fun v => decide (1 ≤ v) && soB (up N 0 11 (v : Int)) n th oc) i ∧ NtM N (up u 69 13 x1) ∧ Same DScr s (up u 69 13 x1)) (fun _ y _ => (9 - y).toNat) ?_ 0 1 s ⟨1, rfl, by omega, by omega, rfl, by rw [hz]; exact hC, by rw [hz]; exact Same.rfl'⟩
  intro m x y u ⟨i, hy, h1i, hi, hx, hCu, hSu⟩ ih
  subst hy
  have hw := (ix3 (j := i) (by omega)).2.2.1
  have hmu := mu9 (j := i) (by omega)
  unfold L_X12_pacesNow_9
  rw [hw]
  clear hw
  refine ⟨fun c s4 e4 => ?_, fun c s2 e2 => ?_⟩
  · have : i = 5 := by omega
    subst this
    rw [hx]
    exact k s4 (by rw [e4]; exact hCu) (by rw [e4]; exact hSu)
  · have hC2 := NtM_wd (z := (i : Int)) hCu
    rw [up_up, ← e2] at hC2
    have hd : decide (1 ≤ i) = true := decide_eq_true h1i
    have hG2 : SgM n th oc s2 := SgM_cg hG (fun a b q => by
      have := hSu a b (by unfold DScr; omega)
      rw [up_c2 (by omega)] at this
      rw [e2, up_c2 (by omega)]; exact this)
    refine T_isSeen (NOk_wd hN (by omega)) hC2 hG2 (fun s3 hP3 hS3 x5 e5 x7 e7 => ?_)
    have hS : Same DMl (up u 69 13 x1) (up s3 69 13 x1) := by
      intro a d hd
      by_cases q : a = 69 ∧ d = 13
      · rw [q.1, q.2, up_at, up_at]
      · rw [up_c2 q, up_c2 q, hS3 a d hd, e2, up_c2 q]
    refine ih _ _ _ ⟨i + 1, rfl, by omega, by omega, ?_, NtM_cg hCu hS, hSu.trans (Same_Ml hS)⟩ hmu
    rw [bitsB_s, hd, Bool.true_and, e7, e5, hx]
    cases w : soB (up N 0 11 (i : Int)) n th oc with
    | true => rw [if_pos rfl, if_neg (by decide), if_pos rfl]
    | false => rw [if_neg Bool.false_ne_true, if_pos rfl, if_neg Bool.false_ne_true, iO_0 (bitsB_r _ _)]
theorem R_paces {s : Sto} (h : Rel s) : P_X11_paces s (fun r s1 => P_X12_paces s1 (fun r2 s2 => r2 = r ∧ Rel s2)) := by
  have hN := tN_ok h
  obtain ⟨g1, g2⟩ := Rel_sg h
  unfold P_X11_paces
  refine T_cpaces hN tN_NtC g1 (fun t hSt => ?_)
  obtain ⟨hRt, eNt⟩ := Rel_sc h hSt
  unfold P_X12_paces
  refine T_findR hRt eNt (fun u u1 u2 u3 u4 u5 u6 => ?_)
  exact T_mpaces hN u2 (SgM_cg g2 (fun a b q => (hSt.trans u6) a b (by unfold DScr; omega))) (fun w w1 w2 => ⟨rfl, (Rel_sc u1 w2).1⟩)
