/-! ===== the relation without the sheets (a sheet is being written) ===== -/
def RelW (s : Sto) : Prop := RRg s ∧ RWd s ∧ RSt s ∧ RTx s ∧ RDv s ∧ (s 69 25 = 0 ∧ s 69 26 = 0) ∧ (s 0 12 ≠ 0 → Pld (tN s) s)
theorem RelW_cgx {s t : Sto} (h : RelW s) (e : ∀ a b, a < 36 ∨ a = 74 ∨ a = 75 ∨ a = 79 ∨ a = 87 → t a b = s a b) (f : ∀ b, b = 13 ∨ b = 14 ∨ b = 25 ∨ b = 26 ∨ b = 27 → t 69 b = s 69 b) : RelW t := by
  obtain ⟨h2, h3, h4, h5, h6, h7, h8⟩ := h
  refine ⟨h2.cg (fun a b q q2 => ?_), RWd_cg h3 (e _ _ (by omega)) (f _ (by omega)), RSt_cg h4 (fun a b q => ?_), RTx_cg h5 (fun a b q => e _ _ (by omega)), RDv_cg h6 (fun a b q q2 => e _ _ (by unfold DTx at q; omega)), ⟨by rw [f _ (by omega)]; exact h7.1, by rw [f _ (by omega)]; exact h7.2⟩, fun q => ?_⟩
  · unfold DRg at q
    by_cases c : a = 69
    · subst c; exact f b (by omega)
    · exact e a b (by omega)
  · unfold DSt at q
    by_cases c : a = 69
    · subst c; exact f b (by omega)
    · exact e a b (by omega)
  · rw [tN_cg (s := s) (t := t) (fun a b q1 q2 => e a b (by omega))]
    rw [e 0 12 (by omega)] at q
    exact Pld_cg (h8 q) (fun a b q1 q2 => e a b (by omega))
theorem RelW_cg {s t : Sto} (h : RelW s) (hS : Same DScr s t) : RelW t := RelW_cgx h (fun a b q => hS a b (by unfold DScr; omega)) (fun b q => hS 69 b (by unfold DScr; omega))
theorem RelW_val {s : Sto} (h : RelW s) : ∃ wd : Int, ValleyOf (s 74) (s 75 0).toNat (s 2 0) (s 3 0) wd (fun c => 1 - s 4 c) ∧ ((0 ≤ s 3 0 ∧ s 3 0 ≤ 36) ∧ (0 ≤ wd ∧ wd ≤ 6) ∧ (0 < s 3 0 → 0 < wd) ∧ ∃ q : Int, s 3 0 = q * wd) ∧ (∀ c : Nat, (c : Int) < s 3 0 → s 4 c = 0 ∨ s 4 c = 1) ∧ (0 < s 3 0 → ∀ c way : Nat, c < 36 → way < 4 → s 5 (4 * c + way) = lkN (s 3 0) (s 4) wd c way) := by
  obtain ⟨h2, h3, h4, h5, h6, h7, h8⟩ := h
  obtain ⟨a1, a2, a3⟩ := h5 0 (by decide)
  have a1 : s 30 1 = s 75 0 := a1
  have hc : cap 0 = 41 := rfl
  rw [hc] at a2
  have hv : CVal s (s 31) (s 30 1).toNat (s 2 0) := h6 0 (by decide)
  obtain ⟨wd, v1, v2, v3⟩ := hv
  rw [a1] at v1
  have v4 := ValleyOf_cg (c := s 74) (fun j hj => by
    have := a3 j (by omega)
    rw [Nat.mul_zero, Nat.zero_add] at this
    exact this) v1
  exact ⟨wd, v4, ValleyOf_num (by omega) v4, v2, v3⟩
theorem RelW_thg {s : Sto} (h : RelW s) : ThingsOf (fun i => s 74 (42 + i)) (s 75 1).toNat (s 2 1) (s 6 6) (s 12) (s 13) (s 14) ∧ (s 75 1).toNat ≤ 39 := by
  obtain ⟨h2, h3, h4, h5, h6, h7, h8⟩ := h
  obtain ⟨a1, a2, a3⟩ := h5 1 (by decide)
  have a1 : s 32 1 = s 75 1 := a1
  have hc : cap 1 = 39 := rfl
  rw [hc] at a2
  have hv : ThingsOf (s 33) (s 32 1).toNat (s 2 1) (s 6 6) (s 12) (s 13) (s 14) := h6 1 (by decide)
  rw [a1] at hv
  exact ⟨ThingsOf_cg (fun j hj => a3 j (by omega)) hv, by omega⟩
theorem RelW_wnd {s : Sto} (h : RelW s) : WindOf (fun i => s 74 (84 + i)) (s 75 2).toNat (s 2 2) (s 15) ∧ (s 75 2).toNat ≤ 20 := by
  obtain ⟨h2, h3, h4, h5, h6, h7, h8⟩ := h
  obtain ⟨a1, a2, a3⟩ := h5 2 (by decide)
  have a1 : s 34 1 = s 75 2 := a1
  have hc : cap 2 = 20 := rfl
  rw [hc] at a2
  have hv : WindOf (s 35) (s 34 1).toNat (s 2 2) (s 15) := h6 2 (by decide)
  rw [a1] at hv
  exact ⟨WindOf_cg (fun j hj => a3 j (by omega)) hv, by omega⟩
theorem tNW_ok {s : Sto} (h : RelW s) : NOk (tN s) := by
  obtain ⟨wd, -, ⟨n1, n2, n3, n4⟩, v2, v3⟩ := RelW_val h
  obtain ⟨t1, t2⟩ := RelW_thg h
  obtain ⟨w1, w2⟩ := RelW_wnd h
  obtain ⟨t3, t4⟩ := t1.rng t2
  have hR := h.1
  have hW := h.2.1
  refine ⟨?_, t3, ?_, n1, fun r hr => ?_, fun t ht => t4 t ht, fun k hk => w1.rng k hk, fun i hi => ?_, fun c => ?_, fun c hc => ?_⟩
  · show 0 ≤ s 6 0 ∧ s 6 0 ≤ 8
    rw [hR.1]; exact hR.2.1
  · show 1 ≤ s 6 11 ∧ s 6 11 ≤ 4
    rw [hW.1]; exact hW.2
  · have hr : (r : Int) < s 6 0 := hr
    rw [hR.1] at hr
    obtain ⟨⟨e1, e2, e3, e4, e5⟩, q1, q2, q3, q4, q5⟩ := hR.2.2 r hr
    show (0 ≤ s 7 r ∧ s 7 r ≤ 20) ∧ (0 ≤ s 8 r ∧ s 8 r ≤ 35) ∧ (0 ≤ s 9 r ∧ s 9 r ≤ 3) ∧ (1 ≤ s 10 r ∧ s 10 r ≤ 9) ∧ (0 ≤ s 11 r ∧ s 11 r ≤ 3)
    rw [e1, e2, e3, e4, e5]
    exact ⟨⟨q1.1, by omega⟩, q2, q3, q4, q5⟩
  · show -1 ≤ s 5 i ∧ s 5 i < s 3 0
    have h0 : 0 < s 3 0 := hi.2
    have e := v3 h0 (i / 4) (i % 4) (by omega) (by omega)
    rw [show 4 * (i / 4) + i % 4 = i by omega] at e
    rw [e]
    rcases lkN_rng (cs := s 3 0) (wd := wd) (c := ((i / 4 : Nat) : Int)) (op := s 4) (way := i % 4) n1.1 with q | q
    · exact q
    · rw [q]; omega
  · show (if (c : Int) < s 3 0 then s 4 c else 0) = 0 ∨ (if (c : Int) < s 3 0 then s 4 c else 0) = 1
    by_cases q : (c : Int) < s 3 0
    · rw [if_pos q]; exact v2 c q
    · rw [if_neg q]; exact Or.inl rfl
  · show (if (c : Int) < s 3 0 then s 4 c else 0) = 0
    have hc : s 3 0 ≤ (c : Int) := hc
    rw [if_neg (by omega)]
theorem TW_rV {s : Sto} {Q : Int → Sto → Prop} (h : RelW s) (k : ∀ t, MVl s t → Same DRV s t → Q (s 2 0) t) : P_X12_readsValley s Q := by
  obtain ⟨wd, v1, ⟨n1, n2, n3, n4⟩, v2, v3⟩ := RelW_val h
  have a2 := (h.2.2.2.1 0 (by decide)).2.1
  have hc : cap 0 = 41 := rfl
  rw [hc] at a2
  refine T_mvalley (n := (s 75 0).toNat) (by omega) (by omega) (fun f t t1 t2 => ?_)
  obtain ⟨f1, f2, f3, f4⟩ := t1.one v1
  rw [f1]
  rw [f2] at f4
  refine k t ⟨f2, fun c hc => f4 c hc, fun c way hc hw => ?_⟩ t2
  rw [v3 (by omega) c way (by omega) hw]
  exact besides (op := s 4) f2 f3 (fun d hd => f4 d hd) n1 n2 n3 n4 hc hw
theorem TW_rT {s : Sto} {Q : Int → Sto → Prop} (h : RelW s) (k : ∀ t, t 69 10 = s 6 6 → (∀ x : Nat, (x : Int) < s 6 6 → t 77 (3 * x) = s 12 x ∧ t 77 (3 * x + 1) = s 13 x ∧ t 77 (3 * x + 2) = s 14 x) → Same DRT s t → Q (s 2 1) t) : P_X12_readsThings s Q := by
  obtain ⟨t1, t2⟩ := RelW_thg h
  have a2 := (h.2.2.2.1 1 (by decide)).2.1
  refine T_mthings (n := (s 75 1).toNat) (by omega) t2 (fun f t u1 u2 => ?_)
  obtain ⟨f1, f2, f3⟩ := u1.one t1
  rw [f1]
  rw [f2] at f3
  exact k t f2 f3 u2
theorem TW_rW {s : Sto} {Q : Int → Sto → Prop} (h : RelW s) (k : ∀ t, (∀ x, x < 20 → t 78 x = s 15 x) → Same DRW s t → Q (s 2 2) t) : P_X12_readsWind s Q := by
  obtain ⟨t1, t2⟩ := RelW_wnd h
  have a2 := (h.2.2.2.1 2 (by decide)).2.1
  refine T_mwind (n := (s 75 2).toNat) (by omega) t2 (fun f t u1 u2 => ?_)
  obtain ⟨f1, f2⟩ := u1.one t1 t2
  rw [f1]
  exact k t f2 u2
theorem TW_reads {s : Sto} {Q : Int → Sto → Prop} (h : RelW s) (k : ∀ t, NtM (tN s) t → Same DScr s t → P_X12_lives t Q) : P_X12_readsValley s (fun _ s1 => P_X12_readsThings s1 (fun _ s3 => P_X12_readsWind s3 (fun _ s5 => P_X12_lives s5 Q))) := by
  refine TW_rV h (fun t1 v1 S1 => ?_)
  have h1 := RelW_cg h (Same_RV S1)
  refine TW_rT h1 (fun t2 a2 b2 S2 => ?_)
  have h2 := RelW_cg h1 (Same_RT S2)
  refine TW_rW h2 (fun t3 b3 S3 => ?_)
  have hS : Same DScr s t3 := ((Same_RV S1).trans (Same_RT S2)).trans (Same_RW S3)
  have e : ∀ a b, a < 44 ∨ (70 ≤ a ∧ a ≤ 75) ∨ a = 79 ∨ a = 87 → t3 a b = s a b := fun a b q => hS a b (by unfold DScr; omega)
  have f : ∀ b, b = 4 ∨ b = 13 ∨ b = 14 ∨ b = 25 ∨ b = 26 ∨ b = 27 → t3 69 b = s 69 b := fun b q => hS 69 b (by unfold DScr; omega)
  have g1 : ∀ a b, a < 44 → t1 a b = s a b := fun a b q => S1 a b (by unfold DRV; omega)
  have g2 : ∀ a b, a < 44 → t2 a b = s a b := fun a b q => (S2 a b (by unfold DRT; omega)).trans (g1 a b q)
  refine k t3 ?_ hS
  have hR := h.1
  have hW := h.2.1
  refine ⟨?_, ?_, ?_, ?_, fun r hr => ?_, fun x hx => ?_, fun k hk => ?_, fun c hc => ?_, fun c w hc hw => ?_⟩
  · rw [f 14 (by omega)]; exact hR.1.symm
  · rw [S3 69 10 (by unfold DRW; omega), a2]; exact g1 6 6 (by omega)
  · rw [f 13 (by omega)]; exact hW.1.symm
  · rw [S3 69 7 (by unfold DRW; omega), S2 69 7 (by unfold DRT; omega)]; exact v1.1
  · have hr : (r : Int) < s 6 0 := hr
    rw [hR.1] at hr
    obtain ⟨⟨e1, e2, e3, e4, e5⟩, -⟩ := hR.2.2 r hr
    rw [f 25 (by omega), h.2.2.2.2.2.1.1, ib_0, e 79 _ (by omega), e 79 _ (by omega), e 79 _ (by omega), e 79 _ (by omega), e 79 _ (by omega)]
    exact ⟨fun q => absurd q (by decide), fun _ => e1.symm, e2.symm, e3.symm, e4.symm, e5.symm⟩
  · have hx : (x : Int) < s 6 6 := hx
    have := b2 x (by rw [g1 6 6 (by omega)]; exact hx)
    rw [S3 77 _ (by unfold DRW; omega), S3 77 _ (by unfold DRW; omega), S3 77 _ (by unfold DRW; omega), this.1, this.2.1, this.2.2, g1 12 x (by omega), g1 13 x (by omega), g1 14 x (by omega)]
    exact ⟨rfl, rfl, rfl⟩
  · rw [f 26 (by omega), h.2.2.2.2.2.1.2, ib_0, if_neg (by decide), b3 k hk, g2 15 k (by omega)]
    rfl
  · have hc : (c : Int) < s 3 0 := hc
    rw [S3 76 _ (by unfold DRW; omega), S2 76 _ (by unfold DRT; omega), v1.2.1 c hc]
    show 1 - s 4 c = 1 - (if (c : Int) < s 3 0 then s 4 c else 0)
    rw [if_pos hc]
  · obtain ⟨k1, k2⟩ := v1.2.2 c w hc hw
    have e7 : t3 69 7 = t1 69 7 := by rw [S3 69 7 (by unfold DRW; omega), S2 69 7 (by unfold DRT; omega)]
    have e8 : t3 69 8 = t1 69 8 := by rw [S3 69 8 (by unfold DRW; omega), S2 69 8 (by unfold DRT; omega)]
    have e76 : t3 76 = t1 76 := funext (fun b => by rw [S3 76 b (by unfold DRW; omega), S2 76 b (by unfold DRT; omega)])
    obtain ⟨m1, m2⟩ := beside_cg (c := (c : Int)) (w := (w : Int)) e7 e8 e76
    exact ⟨by rw [m1]; exact k1, m2 k2⟩
theorem TW_find {s : Sto} {Q : Int → Sto → Prop} (h : RelW s) (k : ∀ t, NtM (tN s) t → PlM (tN s) (sm (tN s) 20) t → KpM (tN s) t 20 → Same DScr s t → Q 0 t) : P_X12_find s Q := by
  unfold P_X12_find
  refine TW_reads h (fun t t1 t2 => ?_)
  refine T_lives (tNW_ok h) t1 (fun u u1 u2 u3 => ?_)
  exact k u (NtM_cg t1 u3) u1 u2 (t2.trans (Same_Ml u3))
theorem TW_findR {N s : Sto} {Q : Int → Sto → Prop} (h : RelW s) (eN : tN s = N) (k : ∀ t, RelW t → NtM N t → PlM N (sm N 20) t → KpM N t 20 → tN t = N → Same DScr s t → Q 0 t) : P_X12_find s Q := by
  subst eN
  exact TW_find h (fun t t1 t2 t3 t4 => k t (RelW_cg h t4) t1 t2 t3 (tN_cg (fun a b q1 q2 => t4 a b (by unfold DScr; omega))) t4)
