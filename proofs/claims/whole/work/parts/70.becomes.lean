/-! ===== a trial becomes the told night; on what a step depends ===== -/
theorem cpy_v {s : Sto} {c0 c1 n a b : Nat} : cpy s c0 (0 : Int).toNat c1 (0 : Int).toNat n a b = if a = c1 ∧ b < n then s c0 b else s a b := by
  have e0 : (0 : Int).toNat = 0 := rfl
  unfold cpy upR
  rw [e0]
  by_cases c : a = c1
  · subst c
    rw [if_pos rfl]
    show (if 0 ≤ b ∧ b < 0 + n then s c0 (0 + (b - 0)) else s a b) = _
    rw [Nat.zero_add, Nat.zero_add, Nat.sub_zero]
    by_cases d : b < n
    · rw [if_pos (⟨Nat.zero_le _, d⟩ : 0 ≤ b ∧ b < n), if_pos (⟨rfl, d⟩ : a = a ∧ b < n)]
    · rw [if_neg (fun q : 0 ≤ b ∧ b < n => d q.2), if_neg (fun q : a = a ∧ b < n => d q.2)]
  · rw [if_neg c, if_neg (fun q => c q.1)]
theorem T_becomes {N s : Sto} {Q : Int → Sto → Prop} (hN : NOk N) (hC : NtC N 6 s) (k : ∀ t, NtC N 44 t → Same (fun a _ => 44 ≤ a ∧ a ≤ 53) s t → Q 0 t) : P_X4_becomes 44 6 s Q := by
  obtain ⟨h1, h2, h3, h4, h5, h6, h7, h8, h9⟩ := hC
  have hR := hN.1
  have hT := hN.2.1
  unfold P_X4_becomes
  intro s1 e1 s7 e7 s13 e13 s19 e19 s25 e25 s31 e31 s32 e32 s38 e38 s44 e44 s50 e50 s56 e56 s57 e57
  have fr : ∀ a b, ¬ (44 ≤ a ∧ a ≤ 53) → s57 a b = s a b := fun a b q => by
    rw [e57, up_c (by omega), e56, cpy_v, if_neg (by omega), e50, cpy_v, if_neg (by omega), e44, cpy_v, if_neg (by omega), e38, cpy_v, if_neg (by omega), e32, up_c (by omega), e31, cpy_v, if_neg (by omega), e25, cpy_v, if_neg (by omega), e19, cpy_v, if_neg (by omega), e13, cpy_v, if_neg (by omega), e7, cpy_v, if_neg (by omega), e1, up_c (by omega)]
  have f1 : ∀ a b, ¬ (44 ≤ a ∧ a ≤ 53) → s1 a b = s a b := fun a b q => by rw [e1, up_c (by omega)]
  have f7 : ∀ a b, ¬ (44 ≤ a ∧ a ≤ 53) → s7 a b = s a b := fun a b q => by rw [e7, cpy_v, if_neg (by omega), f1 a b q]
  have f13 : ∀ a b, ¬ (44 ≤ a ∧ a ≤ 53) → s13 a b = s a b := fun a b q => by rw [e13, cpy_v, if_neg (by omega), f7 a b q]
  have f19 : ∀ a b, ¬ (44 ≤ a ∧ a ≤ 53) → s19 a b = s a b := fun a b q => by rw [e19, cpy_v, if_neg (by omega), f13 a b q]
  have f25 : ∀ a b, ¬ (44 ≤ a ∧ a ≤ 53) → s25 a b = s a b := fun a b q => by rw [e25, cpy_v, if_neg (by omega), f19 a b q]
  have f31 : ∀ a b, ¬ (44 ≤ a ∧ a ≤ 53) → s31 a b = s a b := fun a b q => by rw [e31, cpy_v, if_neg (by omega), f25 a b q]
  have f32 : ∀ a b, ¬ (44 ≤ a ∧ a ≤ 53) → s32 a b = s a b := fun a b q => by rw [e32, up_c (by omega), f31 a b q]
  have f38 : ∀ a b, ¬ (44 ≤ a ∧ a ≤ 53) → s38 a b = s a b := fun a b q => by rw [e38, cpy_v, if_neg (by omega), f32 a b q]
  have f44 : ∀ a b, ¬ (44 ≤ a ∧ a ≤ 53) → s44 a b = s a b := fun a b q => by rw [e44, cpy_v, if_neg (by omega), f38 a b q]
  have f50 : ∀ a b, ¬ (44 ≤ a ∧ a ≤ 53) → s50 a b = s a b := fun a b q => by rw [e50, cpy_v, if_neg (by omega), f44 a b q]
  have f56 : ∀ a b, ¬ (44 ≤ a ∧ a ≤ 53) → s56 a b = s a b := fun a b q => by rw [e56, cpy_v, if_neg (by omega), f50 a b q]
  refine k s57 ⟨?_, ?_, ?_, ?_, fun r hr => ?_, fun x hx => ?_, fun m hm => ?_, fun c hc => ?_, fun i hi => ?_⟩ fr
  · rw [e57, up_j (by decide), e56, cpy_v, if_neg (by omega), e50, cpy_v, if_neg (by omega), e44, cpy_v, if_neg (by omega), e38, cpy_v, if_neg (by omega), e32, up_j (by decide), e31, cpy_v, if_neg (by omega), e25, cpy_v, if_neg (by omega), e19, cpy_v, if_neg (by omega), e13, cpy_v, if_neg (by omega), e7, cpy_v, if_neg (by omega), e1, up_at]; exact h1
  · rw [e57, up_j (by decide), e56, cpy_v, if_neg (by omega), e50, cpy_v, if_neg (by omega), e44, cpy_v, if_neg (by omega), e38, cpy_v, if_neg (by omega), e32, up_at, f31 _ _ (by omega)]; exact h2
  · rw [e57, up_at, f56 _ _ (by omega)]; exact h3
  · rw [fr _ _ (by omega)]; exact h4
  · obtain ⟨k1, k2, k3, k4, k5⟩ := h5 r hr
    have r8 : r < (8 : Int).toNat := by show r < 8; omega
    refine ⟨?_, ?_, ?_, ?_, ?_⟩
    · rw [e57, up_c (by decide), e56, cpy_v, if_neg (by omega), e50, cpy_v, if_neg (by omega), e44, cpy_v, if_neg (by omega), e38, cpy_v, if_neg (by omega), e32, up_c (by decide), e31, cpy_v, if_neg (by omega), e25, cpy_v, if_neg (by omega), e19, cpy_v, if_neg (by omega), e13, cpy_v, if_neg (by omega), e7, cpy_v, if_pos ⟨rfl, r8⟩, f1 _ _ (by omega)]; exact k1
    · rw [e57, up_c (by decide), e56, cpy_v, if_neg (by omega), e50, cpy_v, if_neg (by omega), e44, cpy_v, if_neg (by omega), e38, cpy_v, if_neg (by omega), e32, up_c (by decide), e31, cpy_v, if_neg (by omega), e25, cpy_v, if_neg (by omega), e19, cpy_v, if_neg (by omega), e13, cpy_v, if_pos ⟨rfl, r8⟩, f7 _ _ (by omega)]; exact k2
    · rw [e57, up_c (by decide), e56, cpy_v, if_neg (by omega), e50, cpy_v, if_neg (by omega), e44, cpy_v, if_neg (by omega), e38, cpy_v, if_neg (by omega), e32, up_c (by decide), e31, cpy_v, if_neg (by omega), e25, cpy_v, if_neg (by omega), e19, cpy_v, if_pos ⟨rfl, r8⟩, f13 _ _ (by omega)]; exact k3
    · rw [e57, up_c (by decide), e56, cpy_v, if_neg (by omega), e50, cpy_v, if_neg (by omega), e44, cpy_v, if_neg (by omega), e38, cpy_v, if_neg (by omega), e32, up_c (by decide), e31, cpy_v, if_neg (by omega), e25, cpy_v, if_pos ⟨rfl, r8⟩, f19 _ _ (by omega)]; exact k4
    · rw [e57, up_c (by decide), e56, cpy_v, if_neg (by omega), e50, cpy_v, if_neg (by omega), e44, cpy_v, if_neg (by omega), e38, cpy_v, if_neg (by omega), e32, up_c (by decide), e31, cpy_v, if_pos ⟨rfl, r8⟩, f25 _ _ (by omega)]; exact k5
  · obtain ⟨k1, k2, k3⟩ := h6 x hx
    have r8 : x < (8 : Int).toNat := by show x < 8; omega
    refine ⟨?_, ?_, ?_⟩
    · rw [e57, up_c (by decide), e56, cpy_v, if_neg (by omega), e50, cpy_v, if_neg (by omega), e44, cpy_v, if_neg (by omega), e38, cpy_v, if_pos ⟨rfl, r8⟩, f32 _ _ (by omega)]; exact k1
    · rw [e57, up_c (by decide), e56, cpy_v, if_neg (by omega), e50, cpy_v, if_neg (by omega), e44, cpy_v, if_pos ⟨rfl, r8⟩, f38 _ _ (by omega)]; exact k2
    · rw [e57, up_c (by decide), e56, cpy_v, if_neg (by omega), e50, cpy_v, if_pos ⟨rfl, r8⟩, f44 _ _ (by omega)]; exact k3
  · have r20 : m < (20 : Int).toNat := hm
    rw [e57, up_c (by decide), e56, cpy_v, if_pos ⟨rfl, r20⟩, f50 _ _ (by omega)]; exact h7 m hm
  · rw [fr _ _ (by omega)]; exact h8 c hc
  · rw [fr _ _ (by omega)]; exact h9 i hi
theorem fl_cg {N N' σ : Sto} {k : Nat} (h0 : ∀ b, N' 0 b = N 0 b) (h6 : N' 6 = N 6) (h7 : N' 7 = N 7) (h8 : N' 8 = N 8) : ∀ r, fl N' k σ r = fl N k σ r := by
  have eT : nT N' = nT N := by unfold nT; rw [h0]
  have eft : ∀ r t τ, ft N' k r t τ = ft N k r t τ := fun r t τ => by unfold ft; rw [h6, h7, h8]
  have e1 : ∀ r τ t, fl1 N' k r τ t = fl1 N k r τ t := by
    intro r τ t
    induction t with
    | zero => rfl
    | succ t ih => show ft N' k r t (fl1 N' k r τ t) = ft N k r t (fl1 N k r τ t); rw [ih, eft]
  intro r
  induction r with
  | zero => rfl
  | succ r ih => show fl1 N' k r (fl N' k σ r) (nT N') = fl1 N k r (fl N k σ r) (nT N); rw [ih, eT, e1]
theorem stp_cg {N N' σ : Sto} {k : Nat} (h : ∀ a b, a ≠ 4 → a ≠ 5 → (a = 9 → b = k) → N' a b = N a b) : stp N' k σ = stp N k σ := by
  have r : ∀ a, a ≠ 4 → a ≠ 5 → a ≠ 9 → N' a = N a := fun a q1 q2 q3 => funext (fun b => h a b q1 q2 (fun w => absurd w q3))
  have e0 := r 0 (by decide) (by decide) (by decide)
  have e1 := r 1 (by decide) (by decide) (by decide)
  have e2 := r 2 (by decide) (by decide) (by decide)
  have e3 := r 3 (by decide) (by decide) (by decide)
  have e10 := r 10 (by decide) (by decide) (by decide)
  have e11 := r 11 (by decide) (by decide) (by decide)
  have e9 := h 9 k (by decide) (by decide) (fun _ => rfl)
  have eR : nR N' = nR N := by unfold nR; rw [e0]
  have m1 : ∀ b, mA1 N' σ b = mA1 N σ b := fun b => by unfold mA1 nxt; rw [e3, e11]
  have m2 : ∀ b, mA2 N' k σ b = mA2 N k σ b := fun b => by unfold mA2 nxt; rw [m1, e9, e11]
  have m3 : ∀ b, mB2 N' k σ b = mB2 N k σ b := fun b => by unfold mB2 mB1; rw [m1, m2]
  have m4 : ∀ b, wdt N' k b = wdt N k b := fun b => by unfold wdt; rw [e1, e0]
  have p1 : ∀ b, pA1 N' k σ b = pA1 N k σ b := fun b => by unfold pA1; rw [m2, m4, e1, e2, e10]
  have p2 : ∀ b, pA2 N' k σ b = pA2 N k σ b := fun b => by unfold pA2; rw [m3, e1, e2, e0]
  have p3 : ∀ b, pA3 N' k σ b = pA3 N k σ b := fun b => by unfold pA3; rw [m2, m4, e1]
  have eA : ∀ i, pAi N' k i σ = pAi N k i σ := by
    intro i
    funext a b
    unfold pAi
    rw [p1, p2, p3]
  unfold stp pA
  rw [eR, eA, fl_cg (N := N) (N' := N') (fun b => by rw [e0]) (r 6 (by decide) (by decide) (by decide)) (r 7 (by decide) (by decide) (by decide)) (r 8 (by decide) (by decide) (by decide))]
theorem stp_calm {N N' σ : Sto} {k : Nat} (h : ∀ a b, a ≠ 4 → a ≠ 5 → a ≠ 9 → N' a b = N a b) (hg : ∀ r, r < nR N → ¬ σ 1 r = 1) : stp N' k σ = stp N k σ := by
  have r : ∀ a, a ≠ 4 → a ≠ 5 → a ≠ 9 → N' a = N a := fun a q1 q2 q3 => funext (fun b => h a b q1 q2 q3)
  have e0 := r 0 (by decide) (by decide) (by decide)
  have e1 := r 1 (by decide) (by decide) (by decide)
  have e2 := r 2 (by decide) (by decide) (by decide)
  have e10 := r 10 (by decide) (by decide) (by decide)
  have eR : nR N' = nR N := by unfold nR; rw [e0]
  have eA : pAi N' k (nR N) σ = pAi N k (nR N) σ := by
    funext a b
    unfold pAi
    by_cases c : b < nR N
    · rw [if_pos c, if_pos c]
      have p1 : pA1 N' k σ b = pA1 N k σ b := by unfold pA1; rw [if_neg (hg b c), if_neg (hg b c), e1, e2, e10]
      have p2 : pA2 N' k σ b = pA2 N k σ b := by unfold pA2; rw [if_neg (hg b c), if_neg (hg b c), e1, e2, e0]
      have p3 : pA3 N' k σ b = pA3 N k σ b := by unfold pA3; rw [if_neg (hg b c), if_neg (hg b c), e1]
      rw [p1, p2, p3]
    · rw [if_neg c, if_neg c]
  unfold stp pA
  rw [eR, eA, fl_cg (N := N) (N' := N') (fun b => by rw [e0]) (r 6 (by decide) (by decide) (by decide)) (r 7 (by decide) (by decide) (by decide)) (r 8 (by decide) (by decide) (by decide))]
/-- more breath than is spent changes nothing else -/
def ShR (r : Nat) (d : Int) (σ σ' : Sto) : Prop := (∀ a b, ¬ (a = 4 ∧ b = r) → σ' a b = σ a b) ∧ σ' 4 r = σ 4 r + d
theorem ShR_pA {N σ σ' : Sto} {k r : Nat} {d : Int} (h : ShR r d σ σ') (hd : 0 ≤ d) (hl : 0 < σ 4 r) : ShR r d (pA N k σ) (pA N k σ') := by
  obtain ⟨h1, h2⟩ := h
  have e : ∀ a b, a ≠ 4 → σ' a b = σ a b := fun a b q => h1 a b (fun w => q w.1)
  have hpos : ∀ b, (0 < σ' 4 b) = (0 < σ 4 b) := fun b => by
    by_cases c : b = r
    · rw [c, h2]; exact propext ⟨fun _ => hl, fun _ => by omega⟩
    · rw [h1 4 b (fun w => c w.2)]
  have e1 : ∀ b, mA1 N σ' b = mA1 N σ b := fun b => by
    unfold mA1
    rw [e 2 b (by decide)]
    by_cases c : 0 < σ 4 b
    · rw [if_pos c, if_pos (by rw [hpos]; exact c)]
    · rw [if_neg c, if_neg (by rw [hpos]; exact c)]
  refine ⟨fun a b q => ?_, ?_⟩
  · unfold pA pAi
    by_cases c : b < nR N
    · rw [if_pos c, if_pos c]
      by_cases q4 : a = 4
      · rw [if_neg (by omega), if_neg (by omega), if_neg (by omega), if_pos q4, if_neg (by omega), if_neg (by omega), if_neg (by omega), if_pos q4]
        have hb : ¬ b = r := fun w => q ⟨q4, w⟩
        unfold pA4
        rw [e 1 b (by decide), h1 4 b (fun w => hb w.2)]
      · have e4 : σ' a b = σ a b := e a b q4
        have m2 : mA2 N k σ' b = mA2 N k σ b := by unfold mA2; rw [e1]
        have m3 : mB2 N k σ' b = mB2 N k σ b := by unfold mB2 mB1; rw [m2, e1, e 2 b (by decide)]
        have p1 : pA1 N k σ' b = pA1 N k σ b := by unfold pA1; rw [m2, e 1 b (by decide)]
        have p2 : pA2 N k σ' b = pA2 N k σ b := by unfold pA2; rw [m3, e 1 b (by decide), e 2 b (by decide)]
        have p3 : pA3 N k σ' b = pA3 N k σ b := by unfold pA3; rw [m2, e 1 b (by decide), e 3 b (by decide)]
        rw [p1, p2, p3, e4, if_neg q4, if_neg q4]
    · rw [if_neg c, if_neg c]
      exact h1 a b q
  · unfold pA pAi
    by_cases c : r < nR N
    · rw [if_pos c, if_pos c, if_neg (by decide), if_neg (by decide), if_neg (by decide), if_pos rfl, if_neg (by decide), if_neg (by decide), if_neg (by decide), if_pos rfl]
      unfold pA4
      rw [e 1 r (by decide), h2]
      by_cases c1 : σ 1 r = 1
      · rw [if_pos c1, if_pos c1, if_pos (by omega), if_pos hl]; omega
      · rw [if_neg c1, if_neg c1]
    · rw [if_neg c, if_neg c]; exact h2
theorem ShR_up {r a b : Nat} {d z w : Int} {σ σ' : Sto} (h : ShR r d σ σ') (ha : a ≠ 4) (hz : z = w) : ShR r d (up σ a b z) (up σ' a b w) := by
  obtain ⟨h1, h2⟩ := h
  refine ⟨fun x y q => ?_, ?_⟩
  · by_cases c : x = a ∧ y = b
    · rw [c.1, c.2, up_at, up_at, hz]
    · rw [up_c2 c, up_c2 c]; exact h1 x y q
  · rw [up_c (fun w => ha w.symm), up_c (fun w => ha w.symm)]; exact h2
theorem ShR_pB {r R k : Nat} {d : Int} {σ σ' : Sto} (h : ShR r d σ σ') : ShR r d (pB R k σ) (pB R k σ') := by
  have e : ∀ a b, a ≠ 4 → σ' a b = σ a b := fun a b q => h.1 a b (fun w => q w.1)
  have e1 : σ' 1 = σ 1 := funext (fun b => e 1 b (by decide))
  have e2 : σ' 2 = σ 2 := funext (fun b => e 2 b (by decide))
  have e3 : σ' 3 = σ 3 := funext (fun b => e 3 b (by decide))
  have ep : prC R σ' = prC R σ := by
    unfold prC
    have : prB σ' = prB σ := by funext a b; unfold prB; rw [e1, e2, e3]
    rw [this]
  have eb : ∀ b, brB R σ' b = brB R σ b := fun b => by
    have : eqB σ' = eqB σ := by funext a b; unfold eqB; rw [e1, e2, e3]
    unfold brB
    rw [this]
  have hp : ShR r d (pBp k σ (prC R σ)) (pBp k σ' (prC R σ')) := by
    unfold pBp
    refine ShR_up (ShR_up h (by decide) ?_) (by decide) ?_
    · rw [e 0 0 (by decide), ep]
    · rw [e 0 1 (by decide), ep]
  unfold pB
  refine ⟨fun a b q => ?_, ?_⟩
  · unfold pBr
    rw [brB_p, brB_p, eb]
    by_cases c : a = 1 ∧ b < R ∧ brB R σ b = true
    · rw [if_pos c, if_pos c]
    · rw [if_neg c, if_neg c]; exact hp.1 a b q
  · unfold pBr
    rw [if_neg (fun w => absurd w.1 (by decide)), if_neg (fun w => absurd w.1 (by decide))]
    exact hp.2
theorem ShR_fl {N : Sto} {r k : Nat} {d : Int} {σ σ' : Sto} (h : ShR r d σ σ') : ∀ x, ShR r d (fl N k σ x) (fl N k σ' x) := by
  have hft : ∀ x t τ τ', ShR r d τ τ' → ShR r d (ft N k x t τ) (ft N k x t τ') := by
    intro x t τ τ' q
    have e : ∀ a b, a ≠ 4 → τ' a b = τ a b := fun a b w => q.1 a b (fun v => w v.1)
    unfold ft
    rw [e 1 x (by decide), e 2 x (by decide), e 3 x (by decide), e 5 t (by decide)]
    split
    · exact ShR_up (ShR_up (ShR_up q (by decide) rfl) (by decide) rfl) (by decide) rfl
    · exact q
  have h1 : ∀ x τ τ', ShR r d τ τ' → ∀ t, ShR r d (fl1 N k x τ t) (fl1 N k x τ' t) := by
    intro x τ τ' q t
    induction t with
    | zero => exact q
    | succ t ih => exact hft x t _ _ ih
  intro x
  induction x with
  | zero => exact h
  | succ x ih => exact h1 x _ _ ih _
theorem fl_4 {N σ : Sto} {k b : Nat} : ∀ x, fl N k σ x 4 b = σ 4 b := by
  have h1 : ∀ x τ t, fl1 N k x τ t 4 b = τ 4 b := by
    intro x τ t
    induction t with
    | zero => rfl
    | succ t ih =>
      show ft N k x t (fl1 N k x τ t) 4 b = τ 4 b
      unfold ft
      split
      · rw [up_c (by decide), up_c (by decide), up_c (by decide)]; exact ih
      · exact ih
  intro x
  induction x with
  | zero => rfl
  | succ x ih => show fl1 N k x (fl N k σ x) (nT N) 4 b = σ 4 b; rw [h1, ih]
theorem stp_4 {N σ : Sto} {k r : Nat} : stp N k σ 4 r ≤ σ 4 r := by
  unfold stp
  rw [fl_4, pB_a (by decide) (by decide)]
  unfold pA pAi
  by_cases c : r < nR N
  · rw [if_pos c, if_neg (by decide), if_neg (by decide), if_neg (by decide), if_pos rfl]
    unfold pA4
    split
    · split <;> omega
    · exact Int.le_refl _
  · rw [if_neg c]; exact Int.le_refl _
theorem sm_4 {N : Sto} {r k : Nat} : ∀ d, sm N (k + d) 4 r ≤ sm N k 4 r := by
  intro d
  induction d with
  | zero => exact Int.le_refl _
  | succ d ih => exact Int.le_trans stp_4 ih
theorem breath_more {N : Sto} {r : Nat} {b b' : Int} (hb : b ≤ b') (h : 0 < sm (up N 4 r b) 20 4 r) : ShR r (b' - b) (sm (up N 4 r b) 20) (sm (up N 4 r b') 20) := by
  have key : ∀ k, k ≤ 20 → ShR r (b' - b) (sm (up N 4 r b) k) (sm (up N 4 r b') k) := by
    intro k
    induction k with
    | zero =>
      intro _
      refine ⟨fun a x q => ?_, ?_⟩
      · show st0 (up N 4 r b') a x = st0 (up N 4 r b) a x
        unfold st0
        by_cases c : a = 4
        · have hx : ¬ x = r := fun w => q ⟨c, w⟩
          rw [up_j hx, up_j hx]
        · rw [if_neg c, if_neg c]
      · show st0 (up N 4 r b') 4 r = st0 (up N 4 r b) 4 r + (b' - b)
        unfold st0
        rw [if_neg (by decide), if_neg (by decide), if_neg (by decide), if_neg (by decide), if_pos rfl, if_neg (by decide), if_neg (by decide), if_neg (by decide), if_neg (by decide), if_pos rfl, up_at, up_at]
        omega
    | succ k ih =>
      intro hk
      have hl : 0 < sm (up N 4 r b) k 4 r := by
        have := sm_4 (N := up N 4 r b) (r := r) (k := k) (20 - k)
        rw [show k + (20 - k) = 20 by omega] at this
        omega
      show ShR r (b' - b) (stp (up N 4 r b) k (sm (up N 4 r b) k)) (stp (up N 4 r b') k (sm (up N 4 r b') k))
      rw [stp_cg (N := N) (N' := up N 4 r b) (fun a x q1 _ _ => up_c q1), stp_cg (N := N) (N' := up N 4 r b') (fun a x q1 _ _ => up_c q1)]
      unfold stp
      exact ShR_fl (ShR_pB (ShR_pA (ih (by omega)) (by omega) hl)) _
  exact key 20 (Nat.le_refl 20)
