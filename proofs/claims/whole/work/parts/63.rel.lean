/-! ===== the relation of both sides; the told night ===== -/
def DScr (a b : Nat) : Prop := (44 ≤ a ∧ a ≤ 68) ∨ (a = 69 ∧ (b = 7 ∨ b = 8 ∨ b = 10 ∨ b = 23 ∨ b = 24 ∨ b = 30)) ∨ a = 76 ∨ a = 77 ∨ a = 78 ∨ (80 ≤ a ∧ a ≤ 86) ∨ a = 88 ∨ a = 89
/-- the told night, as the class keeps it -/
def tN (s : Sto) : Sto := fun a b => if a = 0 then (if b = 1 then s 3 0 else s 6 b) else if a ≤ 9 then s (6 + a) b else if a = 10 then (if (b : Int) < s 3 0 then s 4 b else 0) else s 5 b
def DiR (σ : Sto) (k : Nat) (s : Sto) (r : Nat) : Prop := s 25 (32 * k + 4 * r) = σ 1 r ∧ s 25 (32 * k + 4 * r + 1) = σ 2 r ∧ s 25 (32 * k + 4 * r + 2) = σ 3 r ∧ s 25 (32 * k + 4 * r + 3) = σ 4 r
def Pld (N s : Sto) : Prop := Ply N 16 (sm N 20) s ∧ ∀ m, m < 20 → ∀ r : Nat, (r : Int) < N 0 0 → DiR (sm N (m + 1)) m s r
def Rel (s : Sto) : Prop := RSh s ∧ RRg s ∧ RWd s ∧ RSt s ∧ RTx s ∧ RDv s ∧ (s 69 25 = 0 ∧ s 69 26 = 0) ∧ (s 0 12 ≠ 0 → Pld (tN s) s)
theorem tN_cg {s t : Sto} (h : ∀ a b, 3 ≤ a → a ≤ 15 → t a b = s a b) : tN t = tN s := by
  funext a b
  unfold tN
  rw [h 3 0 (by omega) (by omega), h 6 b (by omega) (by omega), h 4 b (by omega) (by omega), h 5 b (by omega) (by omega)]
  by_cases c : a ≤ 9
  · rw [if_pos c, if_pos c, h (6 + a) b (by omega) (by omega)]
  · rw [if_neg c, if_neg c]
theorem Ply_cg {N σ s t : Sto} {o : Nat} (h : Ply N o σ s) (hS : ∀ a b, (a = o ∨ (o + 1 ≤ a ∧ a ≤ o + 7)) → t a b = s a b) : Ply N o σ t := by
  obtain ⟨g1, g2, g3, g4, g5, g6, g7⟩ := h
  refine ⟨fun x hx => ?_, fun x hx => ?_, ?_, ?_, ?_, ?_, fun c hc => ?_⟩
  · rw [hS _ _ (by omega), hS _ _ (by omega), hS _ _ (by omega), hS _ _ (by omega)]; exact g1 x hx
  · rw [hS _ _ (by omega), hS _ _ (by omega), hS _ _ (by omega)]; exact g2 x hx
  · rw [hS _ _ (by omega)]; exact g3
  · rw [hS _ _ (by omega)]; exact g4
  · rw [hS _ _ (by omega)]; exact g5
  · rw [hS _ _ (by omega)]; exact g6
  · rw [hS _ _ (by omega)]; exact g7 c hc
theorem Pld_cg {N s t : Sto} (h : Pld N s) (hS : ∀ a b, 16 ≤ a → a ≤ 25 → t a b = s a b) : Pld N t := by
  refine ⟨Ply_cg h.1 (fun a b q => hS a b (by omega) (by omega)), fun m hm r hr => ?_⟩
  have := h.2 m hm r hr
  unfold DiR at this ⊢
  rw [hS _ _ (by omega) (by omega), hS _ _ (by omega) (by omega), hS _ _ (by omega) (by omega), hS _ _ (by omega) (by omega)]
  exact this
theorem RSh_cg {s t : Sto} (h : RSh s) (hS : ∀ a b, (36 ≤ a ∧ a ≤ 43) ∨ (70 ≤ a ∧ a ≤ 73) ∨ (a = 0 ∧ b = 11) ∨ (a = 69 ∧ b = 4) → t a b = s a b) : RSh t := by
  refine ⟨?_, fun k hk => (h.2 k hk).cg ?_ ?_ ?_ ?_ (fun i _ => ?_) (fun i _ => ?_)⟩
  · rw [hS 0 11 (by omega), hS 69 4 (by omega)]; exact h.1
  all_goals exact hS _ _ (by omega)
theorem RWd_cg {s t : Sto} (h : RWd s) (h1 : t 6 11 = s 6 11) (h2 : t 69 13 = s 69 13) : RWd t := by
  unfold RWd
  rw [h1, h2]; exact h
theorem RSt_cg {s t : Sto} (h : RSt s) (hS : ∀ a b, DSt a b → t a b = s a b) : RSt t := by
  obtain ⟨h1, h2, h3⟩ := h
  have e : ∀ a b, (a = 26 ∧ b = 2) ∨ a = 27 ∨ a = 28 ∨ (a = 69 ∧ b = 27) ∨ a = 87 → t a b = s a b := fun a b q => hS a b (by unfold DSt; omega)
  refine ⟨?_, ?_, fun i hi => ?_⟩
  · rw [e 26 2 (by omega), e 69 27 (by omega)]; exact h1
  · rw [e 69 27 (by omega)]; exact h2
  · rw [e 69 27 (by omega)] at hi
    rw [e _ _ (by omega), e _ _ (by omega), e _ _ (by omega), e _ _ (by omega)]
    exact h3 i hi
theorem RTx_cg {s t : Sto} (h : RTx s) (hS : ∀ a b, (30 ≤ a ∧ a ≤ 35) ∨ a = 74 ∨ a = 75 → t a b = s a b) : RTx t := by
  intro k hk
  obtain ⟨h1, h2, h3⟩ := h k hk
  refine ⟨?_, ?_, fun i hi => ?_⟩
  · rw [hS _ _ (by omega), hS _ _ (by omega)]; exact h1
  · rw [hS _ _ (by omega)]; exact h2
  · rw [hS 75 k (by omega)] at hi
    rw [hS _ _ (by omega), hS _ _ (by omega)]; exact h3 i hi
theorem RDv_cg {s t : Sto} (h : RDv s) (hS : ∀ a b, DTx a b → ¬ (a = 0 ∧ b = 12) → t a b = s a b) : RDv t := fun k hk => (h k hk).cg hk (fun a b q => hS a b (by unfold Uk at q; unfold DTx; omega) (by unfold Uk at q; omega))
theorem Rel_cg {s t : Sto} (h : Rel s) (hS : Same DScr s t) : Rel t := by
  obtain ⟨h1, h2, h3, h4, h5, h6, h7, h8⟩ := h
  have e : ∀ a b, a < 44 ∨ (70 ≤ a ∧ a ≤ 75) ∨ a = 79 ∨ a = 87 → t a b = s a b := fun a b q => hS a b (by unfold DScr; omega)
  have f : ∀ b, b = 4 ∨ b = 13 ∨ b = 14 ∨ b = 25 ∨ b = 26 ∨ b = 27 → t 69 b = s 69 b := fun b q => hS 69 b (by unfold DScr; omega)
  refine ⟨RSh_cg h1 (fun a b q => ?_), h2.cg (fun a b q q2 => ?_), RWd_cg h3 (e _ _ (by omega)) (f _ (by omega)), RSt_cg h4 (fun a b q => ?_), RTx_cg h5 (fun a b q => e _ _ (by omega)), RDv_cg h6 (fun a b q q2 => e _ _ (by unfold DTx at q; omega)), ⟨by rw [f _ (by omega)]; exact h7.1, by rw [f _ (by omega)]; exact h7.2⟩, fun q => ?_⟩
  · by_cases c : a = 69
    · subst c; exact f b (by omega)
    · exact e a b (by omega)
  · unfold DRg at q
    by_cases c : a = 69
    · subst c; exact f b (by omega)
    · exact e a b (by omega)
  · unfold DSt at q
    by_cases c : a = 69
    · subst c; exact f b (by omega)
    · exact e a b (by omega)
  · rw [tN_cg (s := s) (t := t) (fun a b q1 q2 => e a b (by omega))]
    rw [e 0 12 (by omega)] at q
    exact Pld_cg (h8 q) (fun a b q1 q2 => e a b (by omega))
theorem tN_NtC {s : Sto} : NtC (tN s) 6 s := by
  refine ⟨rfl, rfl, rfl, rfl, fun r _ => ⟨rfl, rfl, rfl, rfl, rfl⟩, fun t _ => ⟨rfl, rfl, rfl⟩, fun k _ => rfl, fun c hc => ?_, fun i _ => rfl⟩
  have hc : (c : Int) < s 3 0 := hc
  show s 4 c = if (c : Int) < s 3 0 then s 4 c else 0
  rw [if_pos hc]
theorem lkN_rng {cs wd c : Int} {op : Nat → Int} {way : Nat} (h : 0 ≤ cs) : -1 ≤ lkN cs op wd c way ∧ lkN cs op wd c way < cs ∨ lkN cs op wd c way = -1 := by
  unfold lkN lnk
  split
  · exact Or.inr rfl
  · split
    · exact Or.inr rfl
    · split
      · exact Or.inr rfl
      · next q => left; omega
theorem Rel_val {s : Sto} (h : Rel s) : ∃ wd : Int, ValleyOf (s 74) (s 75 0).toNat (s 2 0) (s 3 0) wd (fun c => 1 - s 4 c) ∧ ((0 ≤ s 3 0 ∧ s 3 0 ≤ 36) ∧ (0 ≤ wd ∧ wd ≤ 6) ∧ (0 < s 3 0 → 0 < wd) ∧ ∃ q : Int, s 3 0 = q * wd) ∧ (∀ c : Nat, (c : Int) < s 3 0 → s 4 c = 0 ∨ s 4 c = 1) ∧ (0 < s 3 0 → ∀ c way : Nat, c < 36 → way < 4 → s 5 (4 * c + way) = lkN (s 3 0) (s 4) wd c way) := by
  obtain ⟨h1, h2, h3, h4, h5, h6, h7, h8⟩ := h
  obtain ⟨a1, a2, a3⟩ := h5 0 (by decide)
  have a1 : s 30 1 = s 75 0 := a1
  have hc : cap 0 = 41 := rfl
  rw [hc] at a2
  have hv : CVal s (s 31) (s 30 1).toNat (s 2 0) := h6 0 (by decide)
  obtain ⟨wd, v1, v2, v3⟩ := hv
  rw [a1] at v1
  have v4 := ValleyOf_cg (c := s 74) (fun j hj => by
    have := a3 j (by omega)
    rw [Nat.mul_zero, Nat.zero_add] at this
    exact this) v1
  exact ⟨wd, v4, ValleyOf_num (by omega) v4, v2, v3⟩
theorem Rel_thg {s : Sto} (h : Rel s) : ThingsOf (fun i => s 74 (42 + i)) (s 75 1).toNat (s 2 1) (s 6 6) (s 12) (s 13) (s 14) ∧ (s 75 1).toNat ≤ 39 := by
  obtain ⟨h1, h2, h3, h4, h5, h6, h7, h8⟩ := h
  obtain ⟨a1, a2, a3⟩ := h5 1 (by decide)
  have a1 : s 32 1 = s 75 1 := a1
  have hc : cap 1 = 39 := rfl
  rw [hc] at a2
  have hv : ThingsOf (s 33) (s 32 1).toNat (s 2 1) (s 6 6) (s 12) (s 13) (s 14) := h6 1 (by decide)
  rw [a1] at hv
  exact ⟨ThingsOf_cg (fun j hj => a3 j (by omega)) hv, by omega⟩
theorem Rel_wnd {s : Sto} (h : Rel s) : WindOf (fun i => s 74 (84 + i)) (s 75 2).toNat (s 2 2) (s 15) ∧ (s 75 2).toNat ≤ 20 := by
  obtain ⟨h1, h2, h3, h4, h5, h6, h7, h8⟩ := h
  obtain ⟨a1, a2, a3⟩ := h5 2 (by decide)
  have a1 : s 34 1 = s 75 2 := a1
  have hc : cap 2 = 20 := rfl
  rw [hc] at a2
  have hv : WindOf (s 35) (s 34 1).toNat (s 2 2) (s 15) := h6 2 (by decide)
  rw [a1] at hv
  exact ⟨WindOf_cg (fun j hj => a3 j (by omega)) hv, by omega⟩
theorem tN_ok {s : Sto} (h : Rel s) : NOk (tN s) := by
  obtain ⟨wd, -, ⟨n1, n2, n3, n4⟩, v2, v3⟩ := Rel_val h
  obtain ⟨t1, t2⟩ := Rel_thg h
  obtain ⟨w1, w2⟩ := Rel_wnd h
  obtain ⟨t3, t4⟩ := t1.rng t2
  have hR := h.2.1
  have hW := h.2.2.1
  refine ⟨?_, t3, ?_, n1, fun r hr => ?_, fun t ht => t4 t ht, fun k hk => w1.rng k hk, fun i hi => ?_, fun c => ?_, fun c hc => ?_⟩
  · show 0 ≤ s 6 0 ∧ s 6 0 ≤ 8
    rw [hR.1]; exact hR.2.1
  · show 1 ≤ s 6 11 ∧ s 6 11 ≤ 4
    rw [hW.1]; exact hW.2
  · have hr : (r : Int) < s 6 0 := hr
    rw [hR.1] at hr
    obtain ⟨⟨e1, e2, e3, e4, e5⟩, q1, q2, q3, q4, q5⟩ := hR.2.2 r hr
    show (0 ≤ s 7 r ∧ s 7 r ≤ 20) ∧ (0 ≤ s 8 r ∧ s 8 r ≤ 35) ∧ (0 ≤ s 9 r ∧ s 9 r ≤ 3) ∧ (1 ≤ s 10 r ∧ s 10 r ≤ 9) ∧ (0 ≤ s 11 r ∧ s 11 r ≤ 3)
    rw [e1, e2, e3, e4, e5]
    exact ⟨⟨q1.1, by omega⟩, q2, q3, q4, q5⟩
  · show -1 ≤ s 5 i ∧ s 5 i < s 3 0
    have h0 : 0 < s 3 0 := hi.2
    have e := v3 h0 (i / 4) (i % 4) (by omega) (by omega)
    rw [show 4 * (i / 4) + i % 4 = i by omega] at e
    rw [e]
    rcases lkN_rng (cs := s 3 0) (wd := wd) (c := ((i / 4 : Nat) : Int)) (op := s 4) (way := i % 4) n1.1 with q | q
    · exact q
    · rw [q]; omega
  · show (if (c : Int) < s 3 0 then s 4 c else 0) = 0 ∨ (if (c : Int) < s 3 0 then s 4 c else 0) = 1
    by_cases q : (c : Int) < s 3 0
    · rw [if_pos q]; exact v2 c q
    · rw [if_neg q]; exact Or.inl rfl
  · show (if (c : Int) < s 3 0 then s 4 c else 0) = 0
    have hc : s 3 0 ≤ (c : Int) := hc
    rw [if_neg (by omega)]
def MVl (s t : Sto) : Prop := t 69 7 = s 3 0 ∧ (∀ c : Nat, (c : Int) < s 3 0 → t 76 c = 1 - s 4 c) ∧ ∀ c way : Nat, (c : Int) < s 3 0 → way < 4 → F_X12_beside (c : Int) (way : Int) t = s 5 (4 * c + way) ∧ O_X12_beside (c : Int) (way : Int) t
def DRV (a b : Nat) : Prop := a = 76 ∨ (a = 69 ∧ (b = 7 ∨ b = 8))
def DRT (a b : Nat) : Prop := a = 77 ∨ (a = 69 ∧ b = 10)
def DRW (a _b : Nat) : Prop := a = 78
theorem T_rV {s : Sto} {Q : Int → Sto → Prop} (h : Rel s) (k : ∀ t, MVl s t → Same DRV s t → Q (s 2 0) t) : P_X12_readsValley s Q := by
  obtain ⟨wd, v1, ⟨n1, n2, n3, n4⟩, v2, v3⟩ := Rel_val h
  have a2 := (h.2.2.2.2.1 0 (by decide)).2.1
  have hc : cap 0 = 41 := rfl
  rw [hc] at a2
  refine T_mvalley (n := (s 75 0).toNat) (by omega) (by omega) (fun f t t1 t2 => ?_)
  obtain ⟨f1, f2, f3, f4⟩ := t1.one v1
  rw [f1]
  rw [f2] at f4
  refine k t ⟨f2, fun c hc => f4 c hc, fun c way hc hw => ?_⟩ t2
  rw [v3 (by omega) c way (by omega) hw]
  exact besides (op := s 4) f2 f3 (fun d hd => f4 d hd) n1 n2 n3 n4 hc hw
theorem T_rT {s : Sto} {Q : Int → Sto → Prop} (h : Rel s) (k : ∀ t, t 69 10 = s 6 6 → (∀ x : Nat, (x : Int) < s 6 6 → t 77 (3 * x) = s 12 x ∧ t 77 (3 * x + 1) = s 13 x ∧ t 77 (3 * x + 2) = s 14 x) → Same DRT s t → Q (s 2 1) t) : P_X12_readsThings s Q := by
  obtain ⟨t1, t2⟩ := Rel_thg h
  have a2 := (h.2.2.2.2.1 1 (by decide)).2.1
  refine T_mthings (n := (s 75 1).toNat) (by omega) t2 (fun f t u1 u2 => ?_)
  obtain ⟨f1, f2, f3⟩ := u1.one t1
  rw [f1]
  rw [f2] at f3
  exact k t f2 f3 u2
theorem T_rW {s : Sto} {Q : Int → Sto → Prop} (h : Rel s) (k : ∀ t, (∀ x, x < 20 → t 78 x = s 15 x) → Same DRW s t → Q (s 2 2) t) : P_X12_readsWind s Q := by
  obtain ⟨t1, t2⟩ := Rel_wnd h
  have a2 := (h.2.2.2.2.1 2 (by decide)).2.1
  refine T_mwind (n := (s 75 2).toNat) (by omega) t2 (fun f t u1 u2 => ?_)
  obtain ⟨f1, f2⟩ := u1.one t1 t2
  rw [f1]
  exact k t f2 u2
theorem Same_RV {s t : Sto} (h : Same DRV s t) : Same DScr s t := h.mono (fun a b q => by unfold DScr; unfold DRV at q; omega)
theorem Same_RT {s t : Sto} (h : Same DRT s t) : Same DScr s t := h.mono (fun a b q => by unfold DScr; unfold DRT at q; omega)
theorem Same_RW {s t : Sto} (h : Same DRW s t) : Same DScr s t := h.mono (fun a b q => by unfold DScr; unfold DRW at q; omega)
theorem Same_Ml {s t : Sto} (h : Same DMl s t) : Same DScr s t := h.mono (fun a b q => by unfold DScr; unfold DMl at q; omega)
/-- the reference has read all texts: it knows the told night -/
theorem T_reads {s : Sto} {Q : Int → Sto → Prop} (h : Rel s) (k : ∀ t, NtM (tN s) t → Same DScr s t → P_X12_lives t Q) : P_X12_readsValley s (fun _ s1 => P_X12_readsThings s1 (fun _ s3 => P_X12_readsWind s3 (fun _ s5 => P_X12_lives s5 Q))) := by
  refine T_rV h (fun t1 v1 S1 => ?_)
  have h1 := Rel_cg h (Same_RV S1)
  refine T_rT h1 (fun t2 a2 b2 S2 => ?_)
  have h2 := Rel_cg h1 (Same_RT S2)
  refine T_rW h2 (fun t3 b3 S3 => ?_)
  have hS : Same DScr s t3 := ((Same_RV S1).trans (Same_RT S2)).trans (Same_RW S3)
  have e : ∀ a b, a < 44 ∨ (70 ≤ a ∧ a ≤ 75) ∨ a = 79 ∨ a = 87 → t3 a b = s a b := fun a b q => hS a b (by unfold DScr; omega)
  have f : ∀ b, b = 4 ∨ b = 13 ∨ b = 14 ∨ b = 25 ∨ b = 26 ∨ b = 27 → t3 69 b = s 69 b := fun b q => hS 69 b (by unfold DScr; omega)
  have g1 : ∀ a b, a < 44 → t1 a b = s a b := fun a b q => S1 a b (by unfold DRV; omega)
  have g2 : ∀ a b, a < 44 → t2 a b = s a b := fun a b q => (S2 a b (by unfold DRT; omega)).trans (g1 a b q)
  refine k t3 ?_ hS
  have hR := h.2.1
  have hW := h.2.2.1
  refine ⟨?_, ?_, ?_, ?_, fun r hr => ?_, fun x hx => ?_, fun k hk => ?_, fun c hc => ?_, fun c w hc hw => ?_⟩
  · rw [f 14 (by omega)]; exact hR.1.symm
  · rw [S3 69 10 (by unfold DRW; omega), a2]; exact g1 6 6 (by omega)
  · rw [f 13 (by omega)]; exact hW.1.symm
  · rw [S3 69 7 (by unfold DRW; omega), S2 69 7 (by unfold DRT; omega)]; exact v1.1
  · have hr : (r : Int) < s 6 0 := hr
    rw [hR.1] at hr
    obtain ⟨⟨e1, e2, e3, e4, e5⟩, -⟩ := hR.2.2 r hr
    rw [f 25 (by omega), h.2.2.2.2.2.2.1.1, ib_0, e 79 _ (by omega), e 79 _ (by omega), e 79 _ (by omega), e 79 _ (by omega), e 79 _ (by omega)]
    exact ⟨fun q => absurd q (by decide), fun _ => e1.symm, e2.symm, e3.symm, e4.symm, e5.symm⟩
  · have hx : (x : Int) < s 6 6 := hx
    have := b2 x (by rw [g1 6 6 (by omega)]; exact hx)
    rw [S3 77 _ (by unfold DRW; omega), S3 77 _ (by unfold DRW; omega), S3 77 _ (by unfold DRW; omega), this.1, this.2.1, this.2.2, g1 12 x (by omega), g1 13 x (by omega), g1 14 x (by omega)]
    exact ⟨rfl, rfl, rfl⟩
  · rw [f 26 (by omega), h.2.2.2.2.2.2.1.2, ib_0, if_neg (by decide), b3 k hk, g2 15 k (by omega)]
    rfl
  · have hc : (c : Int) < s 3 0 := hc
    rw [S3 76 _ (by unfold DRW; omega), S2 76 _ (by unfold DRT; omega), v1.2.1 c hc]
    show 1 - s 4 c = 1 - (if (c : Int) < s 3 0 then s 4 c else 0)
    rw [if_pos hc]
  · obtain ⟨k1, k2⟩ := v1.2.2 c w hc hw
    have e7 : t3 69 7 = t1 69 7 := by rw [S3 69 7 (by unfold DRW; omega), S2 69 7 (by unfold DRT; omega)]
    have e8 : t3 69 8 = t1 69 8 := by rw [S3 69 8 (by unfold DRW; omega), S2 69 8 (by unfold DRT; omega)]
    have e76 : t3 76 = t1 76 := funext (fun b => by rw [S3 76 b (by unfold DRW; omega), S2 76 b (by unfold DRT; omega)])
    obtain ⟨m1, m2⟩ := beside_cg (c := (c : Int)) (w := (w : Int)) e7 e8 e76
    exact ⟨by rw [m1]; exact k1, m2 k2⟩
theorem T_find {s : Sto} {Q : Int → Sto → Prop} (h : Rel s) (k : ∀ t, NtM (tN s) t → PlM (tN s) (sm (tN s) 20) t → KpM (tN s) t 20 → Same DScr s t → Q 0 t) : P_X12_find s Q := by
  unfold P_X12_find
  refine T_reads h (fun t t1 t2 => ?_)
  refine T_lives (tN_ok h) t1 (fun u u1 u2 u3 => ?_)
  exact k u (NtM_cg t1 u3) u1 u2 (t2.trans (Same_Ml u3))
