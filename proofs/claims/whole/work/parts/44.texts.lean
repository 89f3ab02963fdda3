/-! ===== texts: type, wipe, undo ===== -/
def cap (k : Nat) : Nat := if k = 0 then 41 else if k = 1 then 39 else 20
def RT1 (s : Sto) (k : Nat) : Prop := s (30 + 2 * k) 1 = s 75 k ∧ (0 ≤ s 75 k ∧ s 75 k ≤ (cap k : Int)) ∧ ∀ i : Nat, (i : Int) < s 75 k → s (30 + 2 * k + 1) i = s 74 (42 * k + i)
def RTx (s : Sto) : Prop := ∀ k, k < 3 → RT1 s k
/-- what the class keeps of text k is what the text tells -/
def DV (s : Sto) (k : Nat) : Prop := if k = 0 then CVal s (s 31) (s 30 1).toNat (s 2 0) else if k = 1 then ThingsOf (s 33) (s 32 1).toNat (s 2 1) (s 6 6) (s 12) (s 13) (s 14) else WindOf (s 35) (s 34 1).toNat (s 2 2) (s 15)
def RDv (s : Sto) : Prop := ∀ k, k < 3 → DV s k
def Dk (k a b : Nat) : Prop := (a = 2 ∧ b = k) ∨ (a = 0 ∧ b = 12) ∨ (k = 0 ∧ ((a = 3 ∧ b = 0) ∨ a = 4 ∨ a = 5)) ∨ (k = 1 ∧ ((a = 6 ∧ b = 6) ∨ a = 12 ∨ a = 13 ∨ a = 14)) ∨ (k = 2 ∧ a = 15)
def Uk (k a b : Nat) : Prop := (a = 2 ∧ b = k) ∨ (a = 30 + 2 * k ∧ b = 1) ∨ a = 30 + 2 * k + 1 ∨ (k = 0 ∧ ((a = 3 ∧ b = 0) ∨ a = 4 ∨ a = 5)) ∨ (k = 1 ∧ ((a = 6 ∧ b = 6) ∨ a = 12 ∨ a = 13 ∨ a = 14)) ∨ (k = 2 ∧ a = 15)
def DTx (a b : Nat) : Prop := (30 ≤ a ∧ a ≤ 35) ∨ a = 74 ∨ a = 75 ∨ a = 2 ∨ (a = 3 ∧ b = 0) ∨ a = 4 ∨ a = 5 ∨ (a = 6 ∧ b = 6) ∨ (12 ≤ a ∧ a ≤ 15) ∨ (a = 0 ∧ b = 12)
theorem DV.cg {s t : Sto} {k : Nat} (hk : k < 3) (h : DV s k) (hS : ∀ a b, Uk k a b → t a b = s a b) : DV t k := by
  have row : ∀ a, (∀ b, Uk k a b) → t a = s a := fun a q => funext (fun b => hS a b (q b))
  have h3 : k = 0 ∨ k = 1 ∨ k = 2 := by omega
  rcases h3 with rfl | rfl | rfl
  · have h : CVal s (s 31) (s 30 1).toNat (s 2 0) := h
    show CVal t (t 31) (t 30 1).toNat (t 2 0)
    obtain ⟨wd, v1, v2, v3⟩ := h
    unfold CVal
    rw [row 31 (fun b => by unfold Uk; omega), hS 30 1 (by unfold Uk; omega), hS 2 0 (by unfold Uk; omega), hS 3 0 (by unfold Uk; omega), row 4 (fun b => by unfold Uk; omega), row 5 (fun b => by unfold Uk; omega)]
    exact ⟨wd, v1, v2, v3⟩
  · have h : ThingsOf (s 33) (s 32 1).toNat (s 2 1) (s 6 6) (s 12) (s 13) (s 14) := h
    show ThingsOf (t 33) (t 32 1).toNat (t 2 1) (t 6 6) (t 12) (t 13) (t 14)
    rw [row 33 (fun b => by unfold Uk; omega), hS 32 1 (by unfold Uk; omega), hS 2 1 (by unfold Uk; omega), hS 6 6 (by unfold Uk; omega), row 12 (fun b => by unfold Uk; omega), row 13 (fun b => by unfold Uk; omega), row 14 (fun b => by unfold Uk; omega)]
    exact h
  · have h : WindOf (s 35) (s 34 1).toNat (s 2 2) (s 15) := h
    show WindOf (t 35) (t 34 1).toNat (t 2 2) (t 15)
    rw [row 35 (fun b => by unfold Uk; omega), hS 34 1 (by unfold Uk; omega), hS 2 2 (by unfold Uk; omega), row 15 (fun b => by unfold Uk; omega)]
    exact h
theorem T_reread {k : Nat} {s : Sto} {Q : Int → Sto → Prop} (hk : k < 3) (h0 : 0 ≤ s (30 + 2 * k) 1 ∧ s (30 + 2 * k) 1 ≤ (cap k : Int)) (h : ∀ t, DV t k → Same (Dk k) s t → t 0 12 = 0 → Q 0 t) : P_X11_reread (k : Int) s Q := by
  have hin : inb (k : Int) 3 := ⟨by omega, by omega⟩
  obtain ⟨n, hn⟩ := Int.eq_ofNat_of_zero_le h0.1
  have hnc : n ≤ cap k := by omega
  unfold P_X11_reread
  rw [Int.toNat_natCast]
  have h3 : k = 0 ∨ k = 1 ∨ k = 2 := by omega
  rcases h3 with rfl | rfl | rfl
  · refine ⟨fun _ => ⟨hin, T_creread hn hnc (fun f t t1 t2 => ⟨hin, fun s6 e6 s7 e7 => ?_⟩)⟩, fun q => absurd rfl q⟩
    have hS : Same (Dk 0) s s7 := by
      rw [e7, e6]
      exact ((t2.mono (fun a b q => Or.inr (Or.inr (Or.inl ⟨rfl, q⟩)))).up (Or.inl ⟨rfl, rfl⟩)).up (Or.inr (Or.inl ⟨rfl, rfl⟩))
    refine h s7 ?_ hS (by rw [e7, up_at])
    show CVal s7 (s7 31) (s7 30 1).toNat (s7 2 0)
    have fe : ∀ a b, ¬ (a = 2 ∧ b = 0) → ¬ (a = 0 ∧ b = 12) → s7 a b = t a b := fun a b q1 q2 => by rw [e7, up_c2 q2, e6, up_c2 q1]
    have g31 : s7 31 = s 31 := funext (fun b => hS 31 b (by unfold Dk; omega))
    have e2 : s7 2 0 = f := by rw [e7, up_c (by omega), e6, up_at]
    rw [g31, hS 30 1 (by unfold Dk; omega), show s 30 1 = (n : Int) from hn, Int.toNat_natCast, e2]
    obtain ⟨wd, v1, v2, v3⟩ := t1
    unfold CVal
    have r4 : s7 4 = t 4 := funext (fun b => fe 4 b (by omega) (by omega))
    have r5 : s7 5 = t 5 := funext (fun b => fe 5 b (by omega) (by omega))
    rw [fe 3 0 (by omega) (by omega), r4, r5]
    exact ⟨wd, v1, v2, v3⟩
  · refine ⟨fun q => absurd q (by decide), fun _ => ⟨fun _ => ⟨hin, T_cthings hn hnc (fun f t t1 t2 => ⟨hin, fun s6 e6 s7 e7 => ?_⟩)⟩, fun q => absurd rfl q⟩⟩
    have hS : Same (Dk 1) s s7 := by
      rw [e7, e6]
      exact ((t2.mono (fun a b q => Or.inr (Or.inr (Or.inr (Or.inl ⟨rfl, q⟩))))).up (Or.inl ⟨rfl, rfl⟩)).up (Or.inr (Or.inl ⟨rfl, rfl⟩))
    refine h s7 ?_ hS (by rw [e7, up_at])
    show ThingsOf (s7 33) (s7 32 1).toNat (s7 2 1) (s7 6 6) (s7 12) (s7 13) (s7 14)
    have fe : ∀ a b, ¬ (a = 2 ∧ b = 1) → ¬ (a = 0 ∧ b = 12) → s7 a b = t a b := fun a b q1 q2 => by rw [e7, up_c2 q2, e6, up_c2 q1]
    have g33 : s7 33 = s 33 := funext (fun b => hS 33 b (by unfold Dk; omega))
    have e2 : s7 2 1 = f := by rw [e7, up_c (by omega), e6, up_at]
    rw [g33, hS 32 1 (by unfold Dk; omega), show s 32 1 = (n : Int) from hn, Int.toNat_natCast, e2]
    have r12 : s7 12 = t 12 := funext (fun b => fe 12 b (by omega) (by omega))
    have r13 : s7 13 = t 13 := funext (fun b => fe 13 b (by omega) (by omega))
    have r14 : s7 14 = t 14 := funext (fun b => fe 14 b (by omega) (by omega))
    rw [fe 6 6 (by omega) (by omega), r12, r13, r14]
    exact t1
  · refine ⟨fun q => absurd q (by decide), fun _ => ⟨fun q => absurd q (by decide), fun _ => ⟨hin, T_cwind hn hnc (fun f t t1 t2 => ⟨hin, fun s6 e6 s7 e7 => ?_⟩)⟩⟩⟩
    have hS : Same (Dk 2) s s7 := by
      rw [e7, e6]
      exact ((t2.mono (fun a b q => Or.inr (Or.inr (Or.inr (Or.inr ⟨rfl, q⟩))))).up (Or.inl ⟨rfl, rfl⟩)).up (Or.inr (Or.inl ⟨rfl, rfl⟩))
    refine h s7 ?_ hS (by rw [e7, up_at])
    show WindOf (s7 35) (s7 34 1).toNat (s7 2 2) (s7 15)
    have fe : ∀ a b, ¬ (a = 2 ∧ b = 2) → ¬ (a = 0 ∧ b = 12) → s7 a b = t a b := fun a b q1 q2 => by rw [e7, up_c2 q2, e6, up_c2 q1]
    have g35 : s7 35 = s 35 := funext (fun b => hS 35 b (by unfold Dk; omega))
    have e2 : s7 2 2 = f := by rw [e7, up_c (by omega), e6, up_at]
    have r15 : s7 15 = t 15 := funext (fun b => fe 15 b (by omega) (by omega))
    rw [g35, hS 34 1 (by unfold Dk; omega), show s 34 1 = (n : Int) from hn, Int.toNat_natCast, e2, r15]
    exact t1
/-- a text changed on both sides -/
theorem txt_done {s t u : Sto} {k : Nat} (hk : k < 3) (hT : RTx s) (hD : RDv s) (hDk : DV t k) (hSt : Same (fun a b => Dk k a b ∨ (a = 30 + 2 * k ∧ b = 1) ∨ a = 30 + 2 * k + 1) s t) (hSu : Same (fun a b => (a = 74 ∧ 42 * k ≤ b ∧ b < 42 * k + 42) ∨ (a = 75 ∧ b = k)) t u) (hl : t (30 + 2 * k) 1 = u 75 k) (hc : 0 ≤ u 75 k ∧ u 75 k ≤ (cap k : Int)) (hb : ∀ i : Nat, (i : Int) < u 75 k → t (30 + 2 * k + 1) i = u 74 (42 * k + i)) : RTx u ∧ RDv u ∧ Same DTx s u ∧ u 0 12 = t 0 12 := by
  have hcap : ∀ j, cap j ≤ 41 := fun j => by unfold cap; split <;> (try split) <;> omega
  refine ⟨fun j hj => ?_, fun j hj => ?_, fun a b hd => ?_, hSu _ _ (by omega)⟩
  · by_cases ej : j = k
    · subst ej
      refine ⟨by rw [hSu _ _ (by omega), hl], hc, fun i hi => ?_⟩
      rw [hSu _ _ (by omega)]
      exact hb i hi
    · obtain ⟨a1, a2, a3⟩ := hT j hj
      have f : ∀ a b, ¬ (Dk k a b ∨ (a = 30 + 2 * k ∧ b = 1) ∨ a = 30 + 2 * k + 1) → ¬ ((a = 74 ∧ 42 * k ≤ b ∧ b < 42 * k + 42) ∨ (a = 75 ∧ b = k)) → u a b = s a b := fun a b q1 q2 => by rw [hSu a b q2, hSt a b q1]
      have e75 : u 75 j = s 75 j := f _ _ (by unfold Dk; omega) (by omega)
      have hcj := hcap j
      refine ⟨?_, by rw [e75]; exact a2, fun i hi => ?_⟩
      · rw [e75, f _ _ (by unfold Dk; omega) (by omega)]; exact a1
      · rw [e75] at hi
        rw [f _ _ (by unfold Dk; omega) (by omega), f _ _ (by unfold Dk; omega) (by omega)]
        exact a3 i hi
  · by_cases ej : j = k
    · subst ej
      exact hDk.cg hj (fun a b q => hSu a b (by unfold Uk at q; omega))
    · refine (hD j hj).cg hj (fun a b q => ?_)
      unfold Uk at q
      rw [hSu a b (by omega), hSt a b (by unfold Dk; omega)]
  · unfold DTx at hd
    rw [hSu a b (by omega), hSt a b (by unfold Dk; omega)]

theorem wipe_m {k : Nat} {t : Sto} (hk : k < 3) : O_X12_wipe (k : Int) t ∧ F_X12_wipe (k : Int) t = t 75 k ∧ S_X12_wipe (k : Int) t = up t 75 k 0 := by
  have hin : inb (k : Int) 3 := ⟨by omega, by omega⟩
  have g : ¬ F_X12_isText (k : Int) t = 0 := fun q => absurd (isText_0.mp q) (by omega)
  unfold O_X12_wipe F_X12_wipe S_X12_wipe
  rw [if_neg g, if_neg g, Int.toNat_natCast]
  exact ⟨⟨fun _ => trivial, fun _ => ⟨hin, hin, trivial⟩⟩, rfl, rfl⟩
theorem op_wipe {v1 : Int} {s : Sto} (hT : RTx s) (hD : RDv s) : P_X11_wipe v1 s (fun r s1 => O_X12_wipe v1 s1 ∧ F_X12_wipe v1 s1 = r ∧ RTx (S_X12_wipe v1 s1) ∧ RDv (S_X12_wipe v1 s1) ∧ Same DTx s (S_X12_wipe v1 s1) ∧ (S_X12_wipe v1 s1 = s ∨ S_X12_wipe v1 s1 0 12 = 0)) := by
  unfold P_X11_wipe
  refine ⟨fun h => ?_, fun h => ?_⟩
  · have g := isText_0 (s := s).mpr (within_0.mp h)
    dsimp only
    unfold O_X12_wipe F_X12_wipe S_X12_wipe
    rw [if_pos g, if_pos g]
    exact ⟨⟨fun _ => trivial, fun q => absurd g q⟩, rfl, hT, hD, Same.rfl', Or.inl rfl⟩
  · have hv := Decidable.not_not.mp (mt within_0.mpr h)
    obtain ⟨k, rfl⟩ := Int.eq_ofNat_of_zero_le hv.1
    have hk : k < 3 := by omega
    have hin : inb (k : Int) 3 := ⟨by omega, by omega⟩
    obtain ⟨a1, a2, a3⟩ := hT k hk
    rw [Int.toNat_natCast]
    refine ⟨hin, fun x4 e4 => ⟨hin, fun s6 e6 => ?_⟩⟩
    refine T_reread hk (by rw [e6, up_at]; omega) (fun t t1 t2 t3 => ?_)
    obtain ⟨m1, m2, m3⟩ := wipe_m (t := t) hk
    have hSt : Same (fun a b => Dk k a b ∨ (a = 30 + 2 * k ∧ b = 1) ∨ a = 30 + 2 * k + 1) s t := (show Same (fun a b => Dk k a b ∨ (a = 30 + 2 * k ∧ b = 1) ∨ a = 30 + 2 * k + 1) s s6 by rw [e6]; exact Same.rfl'.up (Or.inr (Or.inl ⟨rfl, rfl⟩))).trans (t2.mono (fun a b q => Or.inl q))
    have e75 : t 75 k = s 75 k := hSt _ _ (by unfold Dk; omega)
    have el : t (30 + 2 * k) 1 = 0 := by rw [t2 _ _ (by unfold Dk; omega), e6, up_at]
    rw [m2, m3]
    obtain ⟨d1, d2, d3, d4⟩ := txt_done (u := up t 75 k 0) hk hT hD t1 hSt (Same.rfl'.up (Or.inr ⟨rfl, rfl⟩)) (by rw [up_at, el]) (by rw [up_at]; omega) (fun i hi => by rw [up_at] at hi; omega)
    exact ⟨m1, by rw [e75, e4, a1], d1, d2, d3, Or.inr (by rw [d4, t3])⟩
theorem undo_m {k : Nat} {t : Sto} (hk : k < 3) (h0 : 0 ≤ t 75 k ∧ t 75 k ≤ 41) : O_X12_undo (k : Int) t ∧ (t 75 k = 0 → F_X12_undo (k : Int) t = -3 ∧ S_X12_undo (k : Int) t = t) ∧ (¬ t 75 k = 0 → F_X12_undo (k : Int) t = t 75 k - 1 ∧ S_X12_undo (k : Int) t = up t 75 k (t 75 k - 1)) := by
  have hin : inb (k : Int) 3 := ⟨by omega, by omega⟩
  have g : ¬ F_X12_isText (k : Int) t = 0 := fun q => absurd (isText_0.mp q) (by omega)
  unfold O_X12_undo F_X12_undo S_X12_undo
  rw [if_neg g, if_neg g, Int.toNat_natCast, w32_of (z := t 75 k - 1) (by omega) (by omega)]
  exact ⟨⟨fun _ => trivial, fun _ => ⟨hin, fun _ => trivial, fun _ => ⟨hin, hin, hin, trivial⟩⟩⟩, fun q => by rw [if_pos q, if_pos q]; exact ⟨rfl, rfl⟩, fun q => by rw [if_neg q, if_neg q, up_at]; exact ⟨rfl, rfl⟩⟩
theorem cap_le (k : Nat) : cap k ≤ 41 := by unfold cap; split <;> (try split) <;> omega
theorem op_undo {v1 : Int} {s : Sto} (hT : RTx s) (hD : RDv s) : P_X11_undo v1 s (fun r s1 => O_X12_undo v1 s1 ∧ F_X12_undo v1 s1 = r ∧ RTx (S_X12_undo v1 s1) ∧ RDv (S_X12_undo v1 s1) ∧ Same DTx s (S_X12_undo v1 s1) ∧ (S_X12_undo v1 s1 = s ∨ S_X12_undo v1 s1 0 12 = 0)) := by
  unfold P_X11_undo
  refine ⟨fun h => ?_, fun h => ?_⟩
  · have g := isText_0 (s := s).mpr (within_0.mp h)
    dsimp only
    unfold O_X12_undo F_X12_undo S_X12_undo
    rw [if_pos g, if_pos g]
    exact ⟨⟨fun _ => trivial, fun q => absurd g q⟩, rfl, hT, hD, Same.rfl', Or.inl rfl⟩
  · have hv := Decidable.not_not.mp (mt within_0.mpr h)
    obtain ⟨k, rfl⟩ := Int.eq_ofNat_of_zero_le hv.1
    have hk : k < 3 := by omega
    have hin : inb (k : Int) 3 := ⟨by omega, by omega⟩
    obtain ⟨a1, a2, a3⟩ := hT k hk
    have hc := cap_le k
    rw [Int.toNat_natCast]
    refine ⟨hin, fun c => ⟨hin, fun s6 e6 => ?_⟩, fun c => ?_⟩
    · rw [w32_of (by omega) (by omega)] at e6
      refine T_reread hk (by rw [e6, up_at]; omega) (fun t t1 t2 t3 => ⟨hin, ?_⟩)
      have hSt : Same (fun a b => Dk k a b ∨ (a = 30 + 2 * k ∧ b = 1) ∨ a = 30 + 2 * k + 1) s t := (show Same (fun a b => Dk k a b ∨ (a = 30 + 2 * k ∧ b = 1) ∨ a = 30 + 2 * k + 1) s s6 by rw [e6]; exact Same.rfl'.up (Or.inr (Or.inl ⟨rfl, rfl⟩))).trans (t2.mono (fun a b q => Or.inl q))
      have e75 : t 75 k = s 75 k := hSt _ _ (by unfold Dk; omega)
      have el : t (30 + 2 * k) 1 = s 75 k - 1 := by rw [t2 _ _ (by unfold Dk; omega), e6, up_at, a1]
      obtain ⟨m1, -, m2⟩ := undo_m (t := t) hk (by rw [e75]; omega)
      obtain ⟨m3, m4⟩ := m2 (by rw [e75]; omega)
      dsimp only
      rw [m3, m4, e75, el]
      obtain ⟨d1, d2, d3, d4⟩ := txt_done (u := up t 75 k (s 75 k - 1)) hk hT hD t1 hSt (Same.rfl'.up (Or.inr ⟨rfl, rfl⟩)) (by rw [up_at, el]) (by rw [up_at]; omega) (fun i hi => by
        rw [up_at] at hi
        rw [up_c (by omega), t2 _ _ (by unfold Dk; omega), t2 _ _ (by unfold Dk; omega), e6, up_c (by omega), up_c (by omega)]
        exact a3 i (by omega))
      exact ⟨m1, rfl, d1, d2, d3, Or.inr (by rw [d4, t3])⟩
    · obtain ⟨m1, m2, -⟩ := undo_m (t := s) hk (by omega)
      obtain ⟨m3, m4⟩ := m2 (by omega)
      rw [m3, m4]
      exact ⟨m1, rfl, hT, hD, Same.rfl', Or.inl rfl⟩
theorem type_m {k : Nat} {v : Int} {t : Sto} (hk : k < 3) (hv : 0 ≤ v ∧ v ≤ 255) (h0 : 0 ≤ t 75 k ∧ t 75 k ≤ (cap k : Int)) : O_X12_type (k : Int) v t ∧ (t 75 k = (cap k : Int) → F_X12_type (k : Int) v t = -4 ∧ S_X12_type (k : Int) v t = t) ∧ (¬ t 75 k = (cap k : Int) → F_X12_type (k : Int) v t = t 75 k + 1 ∧ S_X12_type (k : Int) v t = up (up t 74 (42 * k + (t 75 k).toNat) v) 75 k (t 75 k + 1)) := by
  have hin : inb (k : Int) 3 := ⟨by omega, by omega⟩
  have hc := cap_le k
  have g : ¬ F_X12_isText (k : Int) t = 0 := fun q => absurd (isText_0.mp q) (by omega)
  have g2 : ¬ F_X12_in v 0 255 t = 0 := fun q => absurd hv (in_0.mp q)
  have e1 : w32 (w32 (42 * (k : Int)) + t 75 k) = 42 * (k : Int) + t 75 k := by rw [w32_of (z := 42 * (k : Int)) (by omega) (by omega), w32_of (by omega) (by omega)]
  have e2 : (42 * (k : Int) + t 75 k).toNat = 42 * k + (t 75 k).toNat := by omega
  have e3 : w32 (t 75 k + 1) = t 75 k + 1 := w32_of (by omega) (by omega)
  have e4 : up t 74 (42 * k + (t 75 k).toNat) v 75 k = t 75 k := up_c (by omega)
  have hj : inb (42 * (k : Int) + t 75 k) 126 := ⟨by omega, by omega⟩
  unfold O_X12_type F_X12_type S_X12_type
  rw [if_neg g, if_neg g2, if_neg g, if_neg g2, Int.toNat_natCast, e1, e2, e4, e3]
  have h3 : k = 0 ∨ k = 1 ∨ k = 2 := by omega
  refine ⟨⟨fun _ => trivial, fun _ => ⟨fun _ => trivial, fun _ => ⟨hin, fun _ => ⟨fun _ => trivial, fun _ => ⟨hin, hj, hin, hin, hin, trivial⟩⟩, fun _ => ⟨fun _ => ⟨fun _ => trivial, fun _ => ⟨hin, hj, hin, hin, hin, trivial⟩⟩, fun _ => ⟨fun _ => trivial, fun _ => ⟨hin, hj, hin, hin, hin, trivial⟩⟩⟩⟩⟩⟩, fun q => ?_, fun q => ?_⟩
  · rcases h3 with rfl | rfl | rfl
    · have q : t 75 0 = 41 := q
      rw [if_pos (by decide), if_pos q, if_pos (by decide), if_pos q]; exact ⟨rfl, rfl⟩
    · have q : t 75 1 = 39 := q
      rw [if_neg (by decide), if_pos (by decide), if_pos q, if_neg (by decide), if_pos (by decide), if_pos q]; exact ⟨rfl, rfl⟩
    · have q : t 75 2 = 20 := q
      rw [if_neg (by decide), if_neg (by decide), if_pos q, if_neg (by decide), if_neg (by decide), if_pos q]; exact ⟨rfl, rfl⟩
  · rcases h3 with rfl | rfl | rfl
    · have q : ¬ t 75 0 = 41 := q
      rw [if_pos (by decide), if_neg q, if_pos (by decide), if_neg q, up_at]; exact ⟨rfl, rfl⟩
    · have q : ¬ t 75 1 = 39 := q
      rw [if_neg (by decide), if_pos (by decide), if_neg q, if_neg (by decide), if_pos (by decide), if_neg q, up_at]; exact ⟨rfl, rfl⟩
    · have q : ¬ t 75 2 = 20 := q
      rw [if_neg (by decide), if_neg (by decide), if_neg q, if_neg (by decide), if_neg (by decide), if_neg q, up_at]; exact ⟨rfl, rfl⟩
theorem al_text {k : Nat} (h : k < 3) : al (30 + 2 * k + 1) = cap k := by
  have h2 : ∀ k, k < 3 → al (30 + 2 * k + 1) = cap k := by decide
  exact h2 k h
theorem op_type {v1 v2 : Int} {s : Sto} (hT : RTx s) (hD : RDv s) : P_X11_type v1 v2 s (fun r s1 => O_X12_type v1 v2 s1 ∧ F_X12_type v1 v2 s1 = r ∧ RTx (S_X12_type v1 v2 s1) ∧ RDv (S_X12_type v1 v2 s1) ∧ Same DTx s (S_X12_type v1 v2 s1) ∧ (S_X12_type v1 v2 s1 = s ∨ S_X12_type v1 v2 s1 0 12 = 0)) := by
  unfold P_X11_type
  refine ⟨fun h => ?_, fun h => ⟨fun h2 => ?_, fun h2 => ?_⟩⟩
  · have g := isText_0 (s := s).mpr (within_0.mp h)
    dsimp only
    unfold O_X12_type F_X12_type S_X12_type
    rw [if_pos g, if_pos g]
    exact ⟨⟨fun _ => trivial, fun q => absurd g q⟩, rfl, hT, hD, Same.rfl', Or.inl rfl⟩
  · have g : ¬ F_X12_isText v1 s = 0 := fun q => absurd (Decidable.not_not.mp (mt within_0.mpr h)) (isText_0.mp q)
    have g2 := in_0 (s := s).mpr (within_0.mp h2)
    dsimp only
    unfold O_X12_type F_X12_type S_X12_type
    rw [if_neg g, if_pos g2, if_neg g, if_pos g2]
    exact ⟨⟨fun _ => trivial, fun _ => ⟨fun _ => trivial, fun q => absurd g2 q⟩⟩, rfl, hT, hD, Same.rfl', Or.inl rfl⟩
  · have hv := Decidable.not_not.mp (mt within_0.mpr h)
    have hv2 := Decidable.not_not.mp (mt within_0.mpr h2)
    obtain ⟨k, rfl⟩ := Int.eq_ofNat_of_zero_le hv.1
    have hk : k < 3 := by omega
    have hin : inb (k : Int) 3 := ⟨by omega, by omega⟩
    obtain ⟨a1, a2, a3⟩ := hT k hk
    have hc := cap_le k
    rw [Int.toNat_natCast]
    unfold O_X9_append F_X9_append S_X9_append
    rw [al_text hk, a1]
    by_cases c : s 75 k < (cap k : Int)
    · rw [if_pos c, if_pos c]
      refine ⟨hin, ⟨fun _ => ⟨⟨by omega, by omega⟩, trivial⟩, fun _ => trivial⟩, fun s8 e8 => ⟨fun q => absurd q (by decide), fun _ => ?_⟩⟩
      rw [up_c (by omega), a1, w32_of (by omega) (by omega)] at e8
      refine T_reread hk (by rw [e8, up_at]; omega) (fun t t1 t2 t3 => ⟨hin, ?_⟩)
      have hSt : Same (fun a b => Dk k a b ∨ (a = 30 + 2 * k ∧ b = 1) ∨ a = 30 + 2 * k + 1) s t := (show Same (fun a b => Dk k a b ∨ (a = 30 + 2 * k ∧ b = 1) ∨ a = 30 + 2 * k + 1) s s8 by rw [e8]; exact (Same.rfl'.up (Or.inr (Or.inr rfl))).up (Or.inr (Or.inl ⟨rfl, rfl⟩))).trans (t2.mono (fun a b q => Or.inl q))
      have e75 : t 75 k = s 75 k := hSt _ _ (by unfold Dk; omega)
      have el : t (30 + 2 * k) 1 = s 75 k + 1 := by rw [t2 _ _ (by unfold Dk; omega), e8, up_at]
      obtain ⟨m1, -, m2⟩ := type_m (t := t) hk hv2 (by rw [e75]; exact a2)
      obtain ⟨m3, m4⟩ := m2 (by rw [e75]; omega)
      dsimp only
      rw [m3, m4, e75, el]
      obtain ⟨d1, d2, d3, d4⟩ := txt_done (u := up (up t 74 (42 * k + (s 75 k).toNat) v2) 75 k (s 75 k + 1)) hk hT hD t1 hSt ((Same.rfl'.up (Or.inl ⟨rfl, by omega, by omega⟩)).up (Or.inr ⟨rfl, rfl⟩)) (by rw [up_at, el]) (by rw [up_at]; omega) (fun i hi => by
        rw [up_at] at hi
        rw [up_c (by omega), t2 _ _ (by unfold Dk; omega), e8, up_c (by omega)]
        by_cases ei : i = (s 75 k).toNat
        · rw [ei, up_at, up_at]
        · rw [up_j ei, up_j (by omega), hSt _ _ (by unfold Dk; omega)]
          exact a3 i (by omega))
      exact ⟨m1, rfl, d1, d2, d3, Or.inr (by rw [d4, t3])⟩
    · rw [if_neg c, if_neg c]
      refine ⟨hin, ⟨fun q => absurd q c, fun _ => trivial⟩, fun s8 e8 => ⟨fun _ => ?_, fun q => absurd rfl q⟩⟩
      subst e8
      obtain ⟨m1, m2, -⟩ := type_m (t := s8) hk hv2 a2
      obtain ⟨m3, m4⟩ := m2 (by omega)
      rw [m3, m4]
      exact ⟨m1, rfl, hT, hD, Same.rfl', Or.inl rfl⟩
