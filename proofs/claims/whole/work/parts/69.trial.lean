/-! ===== trial nights ===== -/
theorem up_self {N : Sto} {a b : Nat} : up N a b (N a b) = N := by
  funext x y
  by_cases c : x = a ∧ y = b
  · rw [c.1, c.2, up_at]
  · rw [up_c2 c]
theorem up_up {N : Sto} {a b : Nat} {z w : Int} : up (up N a b z) a b w = up N a b w := by
  funext x y
  by_cases c : x = a ∧ y = b
  · rw [c.1, c.2, up_at, up_at]
  · rw [up_c2 c, up_c2 c, up_c2 c]
theorem up_cm {N : Sto} {a b c d : Nat} {z w : Int} (h : ¬ (a = c ∧ b = d)) : up (up N a b z) c d w = up (up N c d w) a b z := by
  funext x y
  by_cases c1 : x = c ∧ y = d
  · rw [c1.1, c1.2, up_at, up_c2 (by omega), up_at]
  · by_cases c2 : x = a ∧ y = b
    · rw [c2.1, c2.2, up_at, up_c2 (by omega), up_at]
    · rw [up_c2 c1, up_c2 c2, up_c2 c2, up_c2 c1]
def lgl (a : Nat) (z : Int) : Prop := (a = 1 ∧ 0 ≤ z ∧ z ≤ 20) ∨ (a = 2 ∧ 0 ≤ z ∧ z ≤ 35) ∨ (a = 3 ∧ 0 ≤ z ∧ z ≤ 3) ∨ (a = 4 ∧ 1 ≤ z ∧ z ≤ 9) ∨ (a = 5 ∧ 0 ≤ z ∧ z ≤ 3) ∨ (a = 6 ∧ 0 ≤ z ∧ z ≤ 39) ∨ (a = 9 ∧ -1 ≤ z ∧ z ≤ 3)
theorem NOk_up {N : Sto} {a b : Nat} {z : Int} (h : NOk N) (hz : lgl a z) : NOk (up N a b z) := by
  unfold lgl at hz
  obtain ⟨h1, h2, h3, h4, h5, h6, h7, h8, h9, h10⟩ := h
  have e0 : ∀ x, up N a b z 0 x = N 0 x := fun x => up_c (by omega)
  have e10 : ∀ x, up N a b z 10 x = N 10 x := fun x => up_c (by omega)
  have e11 : ∀ x, up N a b z 11 x = N 11 x := fun x => up_c (by omega)
  have one : ∀ (c x : Nat) (lo hi : Int), (lo ≤ N c x ∧ N c x ≤ hi) → (a = c → lo ≤ z ∧ z ≤ hi) → lo ≤ up N a b z c x ∧ up N a b z c x ≤ hi := by
    intro c x lo hi q1 q2
    by_cases w : c = a ∧ x = b
    · rw [w.1, w.2, up_at]; exact q2 w.1.symm
    · rw [up_c2 w]; exact q1
  refine ⟨by rw [e0]; exact h1, by rw [e0]; exact h2, by rw [e0]; exact h3, by rw [e0]; exact h4, fun r hr => ?_, fun t ht => ?_, fun k hk => ?_, fun i hi => ?_, fun c => ?_, fun c hc => ?_⟩
  · rw [e0] at hr
    obtain ⟨g1, g2, g3, g4, g5⟩ := h5 r hr
    exact ⟨one 1 r _ _ g1 (fun q => by omega), one 2 r _ _ g2 (fun q => by omega), one 3 r _ _ g3 (fun q => by omega), one 4 r _ _ g4 (fun q => by omega), one 5 r _ _ g5 (fun q => by omega)⟩
  · rw [e0] at ht
    obtain ⟨g1, g2, g3⟩ := h6 t ht
    exact ⟨one 6 t _ _ g1 (fun q => by omega), one 7 t _ _ g2 (fun q => by omega), one 8 t _ _ g3 (fun q => by omega)⟩
  · exact one 9 k _ _ (h7 k hk) (fun q => by omega)
  · rw [e0] at hi; rw [e11, e0]; exact h8 i hi
  · rw [e10]; exact h9 c
  · rw [e0] at hc; rw [e10]; exact h10 c hc
theorem NOk_wd {N : Sto} {z : Int} (h : NOk N) (hz : 1 ≤ z ∧ z ≤ 4) : NOk (up N 0 11 z) := by
  obtain ⟨h1, h2, h3, h4, h5, h6, h7, h8, h9, h10⟩ := h
  have e : ∀ a x, a ≠ 0 ∨ x ≠ 11 → up N 0 11 z a x = N a x := fun a x q => up_c2 (by omega)
  refine ⟨by rw [e _ _ (by omega)]; exact h1, by rw [e _ _ (by omega)]; exact h2, by rw [up_at]; exact hz, by rw [e _ _ (by omega)]; exact h4, fun r hr => ?_, fun t ht => ?_, fun k hk => ?_, fun i hi => ?_, fun c => ?_, fun c hc => ?_⟩
  · rw [e _ _ (by omega)] at hr
    rw [e _ _ (by omega), e _ _ (by omega), e _ _ (by omega), e _ _ (by omega), e _ _ (by omega)]; exact h5 r hr
  · rw [e _ _ (by omega)] at ht
    rw [e _ _ (by omega), e _ _ (by omega), e _ _ (by omega)]; exact h6 t ht
  · rw [e _ _ (by omega)]; exact h7 k hk
  · rw [e _ _ (by omega)] at hi; rw [e _ _ (by omega), e _ _ (by omega)]; exact h8 i hi
  · rw [e _ _ (by omega)]; exact h9 c
  · rw [e _ _ (by omega)] at hc; rw [e _ _ (by omega)]; exact h10 c hc
theorem NtC_up {N t : Sto} {a b : Nat} {z : Int} (h : NtC N 44 t) (ha : 1 ≤ a ∧ a ≤ 9) : NtC (up N a b z) 44 (up t (44 + a) b z) := by
  obtain ⟨h1, h2, h3, h4, h5, h6, h7, h8, h9⟩ := h
  have e : ∀ c x, ¬ (1 ≤ c ∧ c ≤ 9) → up N a b z c x = N c x := fun c x q => up_c (by omega)
  have f : ∀ c x, ¬ (45 ≤ c ∧ c ≤ 53) → up t (44 + a) b z c x = t c x := fun c x q => up_c (by omega)
  have g : ∀ c x, t (44 + c) x = N c x → up t (44 + a) b z (44 + c) x = up N a b z c x := fun c x q => by
    by_cases w : c = a ∧ x = b
    · rw [w.1, w.2, up_at, up_at]
    · rw [up_c2 (by omega), up_c2 w, q]
  refine ⟨?_, ?_, ?_, ?_, fun r hr => ?_, fun x hx => ?_, fun k hk => ?_, fun c hc => ?_, fun i hi => ?_⟩
  · rw [f _ _ (by omega), e _ _ (by omega)]; exact h1
  · rw [f _ _ (by omega), e _ _ (by omega)]; exact h2
  · rw [f _ _ (by omega), e _ _ (by omega)]; exact h3
  · rw [f _ _ (by omega), e _ _ (by omega)]; exact h4
  · rw [e _ _ (by omega)] at hr
    obtain ⟨k1, k2, k3, k4, k5⟩ := h5 r hr
    exact ⟨g 1 r k1, g 2 r k2, g 3 r k3, g 4 r k4, g 5 r k5⟩
  · rw [e _ _ (by omega)] at hx
    obtain ⟨k1, k2, k3⟩ := h6 x hx
    exact ⟨g 6 x k1, g 7 x k2, g 8 x k3⟩
  · exact g 9 k (h7 k hk)
  · rw [e _ _ (by omega)] at hc
    rw [f _ _ (by omega), e _ _ (by omega)]; exact h8 c hc
  · rw [f _ _ (by omega), e _ _ (by omega)]; exact h9 i hi
theorem NtC_wd {N t : Sto} {z : Int} (h : NtC N 44 t) : NtC (up N 0 11 z) 44 (up t 44 11 z) := by
  obtain ⟨h1, h2, h3, h4, h5, h6, h7, h8, h9⟩ := h
  have e : ∀ a x, a ≠ 0 ∨ x ≠ 11 → up N 0 11 z a x = N a x := fun a x q => up_c2 (by omega)
  have f : ∀ a x, a ≠ 44 ∨ x ≠ 11 → up t 44 11 z a x = t a x := fun a x q => up_c2 (by omega)
  refine ⟨?_, ?_, by rw [up_at, up_at], ?_, fun r hr => ?_, fun x hx => ?_, fun k hk => ?_, fun c hc => ?_, fun i hi => ?_⟩
  · rw [f _ _ (by omega), e _ _ (by omega)]; exact h1
  · rw [f _ _ (by omega), e _ _ (by omega)]; exact h2
  · rw [f _ _ (by omega), e _ _ (by omega)]; exact h4
  · rw [e _ _ (by omega)] at hr
    rw [f _ _ (by omega), f _ _ (by omega), f _ _ (by omega), f _ _ (by omega), f _ _ (by omega), e _ _ (by omega), e _ _ (by omega), e _ _ (by omega), e _ _ (by omega), e _ _ (by omega)]
    exact h5 r hr
  · rw [e _ _ (by omega)] at hx
    rw [f _ _ (by omega), f _ _ (by omega), f _ _ (by omega), e _ _ (by omega), e _ _ (by omega), e _ _ (by omega)]
    exact h6 x hx
  · rw [f _ _ (by omega), e _ _ (by omega)]; exact h7 k hk
  · rw [e _ _ (by omega)] at hc
    rw [f _ _ (by omega), e _ _ (by omega)]; exact h8 c hc
  · rw [f _ _ (by omega), e _ _ (by omega)]; exact h9 i hi
/-- cells of the reference's night that a change leaves -/
theorem NtM_keep {N s t : Sto} (h : NtM N s) (hS : ∀ a b, a = 69 ∧ b ≠ 23 ∧ b ≠ 24 ∧ b ≠ 30 ∨ (76 ≤ a ∧ a ≤ 79) → t a b = s a b) : NtM N t := by
  obtain ⟨h1, h2, h3, h4, h5, h6, h7, h8, h9⟩ := h
  have e76 : t 76 = s 76 := funext (fun b => hS 76 b (by omega))
  refine ⟨?_, ?_, ?_, ?_, fun r hr => ?_, fun x hx => ?_, fun k hk => ?_, fun c hc => ?_, fun c w hc hw => ?_⟩
  · rw [hS _ _ (by omega)]; exact h1
  · rw [hS _ _ (by omega)]; exact h2
  · rw [hS _ _ (by omega)]; exact h3
  · rw [hS _ _ (by omega)]; exact h4
  · rw [hS 69 25 (by omega), hS _ _ (by omega), hS _ _ (by omega), hS _ _ (by omega), hS _ _ (by omega), hS _ _ (by omega)]; exact h5 r hr
  · rw [hS _ _ (by omega), hS _ _ (by omega), hS _ _ (by omega)]; exact h6 x hx
  · rw [hS 69 26 (by omega), hS _ _ (by omega)]; exact h7 k hk
  · rw [hS _ _ (by omega)]; exact h8 c hc
  · obtain ⟨g1, g2⟩ := beside_cg (c := (c : Int)) (w := (w : Int)) (hS 69 7 (by omega)) (hS 69 8 (by omega)) e76
    obtain ⟨k1, k2⟩ := h9 c w hc hw
    exact ⟨by rw [g1]; exact k1, g2 k2⟩
theorem NtM_ring {N s : Sto} {a r : Nat} {z : Int} (h : NtM N s) (ha : 2 ≤ a ∧ a ≤ 5) : NtM (up N a r z) (up s 79 (5 * r + a - 1) z) := by
  obtain ⟨h1, h2, h3, h4, h5, h6, h7, h8, h9⟩ := h
  have e : ∀ c x, ¬ (2 ≤ c ∧ c ≤ 5) → up N a r z c x = N c x := fun c x q => up_c (by omega)
  have f : ∀ c x, c ≠ 79 → up s 79 (5 * r + a - 1) z c x = s c x := fun c x q => up_c q
  have g : ∀ c x, 1 ≤ c → c ≤ 5 → s 79 (5 * x + c - 1) = N c x → up s 79 (5 * r + a - 1) z 79 (5 * x + c - 1) = up N a r z c x := fun c x q1 q2 q => by
    by_cases w : c = a ∧ x = r
    · rw [w.1, w.2, up_at, up_at]
    · rw [up_c2 (by omega), up_c2 w, q]
  have e76 : up s 79 (5 * r + a - 1) z 76 = s 76 := funext (fun b => f 76 b (by decide))
  refine ⟨?_, ?_, ?_, ?_, fun x hx => ?_, fun x hx => ?_, fun k hk => ?_, fun c hc => ?_, fun c w hc hw => ?_⟩
  · rw [f _ _ (by decide), e _ _ (by omega)]; exact h1
  · rw [f _ _ (by decide), e _ _ (by omega)]; exact h2
  · rw [f _ _ (by decide), e _ _ (by omega)]; exact h3
  · rw [f _ _ (by decide), e _ _ (by omega)]; exact h4
  · rw [e _ _ (by omega)] at hx
    obtain ⟨k0, k1, k2, k3, k4, k5⟩ := h5 x hx
    have g1 := g 1 x (by omega) (by omega)
    have g2 := g 2 x (by omega) (by omega)
    have g3 := g 3 x (by omega) (by omega)
    have g4 := g 4 x (by omega) (by omega)
    have g5 := g 5 x (by omega) (by omega)
    rw [show 5 * x + 1 - 1 = 5 * x by omega] at g1
    rw [show 5 * x + 2 - 1 = 5 * x + 1 by omega] at g2
    rw [show 5 * x + 3 - 1 = 5 * x + 2 by omega] at g3
    rw [show 5 * x + 4 - 1 = 5 * x + 3 by omega] at g4
    rw [show 5 * x + 5 - 1 = 5 * x + 4 by omega] at g5
    rw [f 69 25 (by decide)]
    exact ⟨fun q => by rw [e _ _ (by omega)]; exact k0 q, fun q => g1 (k1 q), g2 k2, g3 k3, g4 k4, g5 k5⟩
  · rw [e _ _ (by omega)] at hx
    rw [f _ _ (by decide), f _ _ (by decide), f _ _ (by decide), e _ _ (by omega), e _ _ (by omega), e _ _ (by omega)]; exact h6 x hx
  · rw [f 69 26 (by decide), f _ _ (by decide), e _ _ (by omega)]; exact h7 k hk
  · rw [e _ _ (by omega)] at hc
    rw [f _ _ (by decide), e _ _ (by omega)]; exact h8 c hc
  · rw [e _ _ (by omega)] at hc
    rw [e _ _ (by omega)]
    obtain ⟨g1, g2⟩ := beside_cg (c := (c : Int)) (w := (w : Int)) (f 69 7 (by decide)) (f 69 8 (by decide)) e76
    obtain ⟨k1, k2⟩ := h9 c w hc hw
    exact ⟨by rw [g1]; exact k1, g2 k2⟩
theorem NtM_thing {N s : Sto} {x : Nat} {z : Int} (h : NtM N s) : NtM (up N 6 x z) (up s 77 (3 * x) z) := by
  obtain ⟨h1, h2, h3, h4, h5, h6, h7, h8, h9⟩ := h
  have e : ∀ c y, c ≠ 6 → up N 6 x z c y = N c y := fun c y q => up_c q
  have f : ∀ c y, c ≠ 77 → up s 77 (3 * x) z c y = s c y := fun c y q => up_c q
  have e76 : up s 77 (3 * x) z 76 = s 76 := funext (fun b => f 76 b (by decide))
  refine ⟨?_, ?_, ?_, ?_, fun y hy => ?_, fun y hy => ?_, fun k hk => ?_, fun c hc => ?_, fun c w hc hw => ?_⟩
  · rw [f _ _ (by decide), e _ _ (by decide)]; exact h1
  · rw [f _ _ (by decide), e _ _ (by decide)]; exact h2
  · rw [f _ _ (by decide), e _ _ (by decide)]; exact h3
  · rw [f _ _ (by decide), e _ _ (by decide)]; exact h4
  · rw [e _ _ (by decide)] at hy
    rw [f 69 25 (by decide), f _ _ (by decide), f _ _ (by decide), f _ _ (by decide), f _ _ (by decide), f _ _ (by decide), e _ _ (by decide), e _ _ (by decide), e _ _ (by decide), e _ _ (by decide), e _ _ (by decide)]
    exact h5 y hy
  · rw [e _ _ (by decide)] at hy
    obtain ⟨k1, k2, k3⟩ := h6 y hy
    refine ⟨?_, ?_, ?_⟩
    · by_cases w : y = x
      · rw [w, up_at, up_at]
      · rw [up_j (by omega), up_j w]; exact k1
    · rw [up_j (by omega), e _ _ (by decide)]; exact k2
    · rw [up_j (by omega), e _ _ (by decide)]; exact k3
  · rw [f 69 26 (by decide), f _ _ (by decide), e _ _ (by decide)]; exact h7 k hk
  · rw [e _ _ (by decide)] at hc
    rw [f _ _ (by decide), e _ _ (by decide)]; exact h8 c hc
  · rw [e _ _ (by decide)] at hc
    rw [e _ _ (by decide)]
    obtain ⟨g1, g2⟩ := beside_cg (c := (c : Int)) (w := (w : Int)) (f 69 7 (by decide)) (f 69 8 (by decide)) e76
    obtain ⟨k1, k2⟩ := h9 c w hc hw
    exact ⟨by rw [g1]; exact k1, g2 k2⟩
theorem NtM_wd {N s : Sto} {z : Int} (h : NtM N s) : NtM (up N 0 11 z) (up s 69 13 z) := by
  obtain ⟨h1, h2, h3, h4, h5, h6, h7, h8, h9⟩ := h
  have e : ∀ c y, c ≠ 0 ∨ y ≠ 11 → up N 0 11 z c y = N c y := fun c y q => up_c2 (by omega)
  have f : ∀ c y, c ≠ 69 ∨ y ≠ 13 → up s 69 13 z c y = s c y := fun c y q => up_c2 (by omega)
  have e76 : up s 69 13 z 76 = s 76 := funext (fun b => f 76 b (by omega))
  refine ⟨?_, ?_, by rw [up_at, up_at], ?_, fun y hy => ?_, fun y hy => ?_, fun k hk => ?_, fun c hc => ?_, fun c w hc hw => ?_⟩
  · rw [f _ _ (by omega), e _ _ (by omega)]; exact h1
  · rw [f _ _ (by omega), e _ _ (by omega)]; exact h2
  · rw [f _ _ (by omega), e _ _ (by omega)]; exact h4
  · rw [e _ _ (by omega)] at hy
    rw [f 69 25 (by omega), f _ _ (by omega), f _ _ (by omega), f _ _ (by omega), f _ _ (by omega), f _ _ (by omega), e _ _ (by omega), e _ _ (by omega), e _ _ (by omega), e _ _ (by omega), e _ _ (by omega)]
    exact h5 y hy
  · rw [e _ _ (by omega)] at hy
    rw [f _ _ (by omega), f _ _ (by omega), f _ _ (by omega), e _ _ (by omega), e _ _ (by omega), e _ _ (by omega)]; exact h6 y hy
  · rw [f 69 26 (by omega), f _ _ (by omega), e _ _ (by omega)]; exact h7 k hk
  · rw [e _ _ (by omega)] at hc
    rw [f _ _ (by omega), e _ _ (by omega)]; exact h8 c hc
  · rw [e _ _ (by omega)] at hc
    rw [e _ _ (by omega)]
    obtain ⟨g1, g2⟩ := beside_cg (c := (c : Int)) (w := (w : Int)) (f 69 7 (by omega)) (f 69 8 (by omega)) e76
    obtain ⟨k1, k2⟩ := h9 c w hc hw
    exact ⟨by rw [g1]; exact k1, g2 k2⟩
/-- rings gone, steps calm -/
def gnN (N : Sto) (g : Int) : Sto := fun a r => if a = 1 ∧ ib g r = true then 20 else N a r
def clN (N : Sto) (g : Int) : Sto := fun a k => if a = 9 ∧ ib g k = true then -1 else N a k
theorem gnN_0 {N : Sto} : gnN N 0 = N := by
  funext a r
  unfold gnN
  rw [ib_0, if_neg (fun q => absurd q.2 (by decide))]
theorem clN_0 {N : Sto} : clN N 0 = N := by
  funext a r
  unfold clN
  rw [ib_0, if_neg (fun q => absurd q.2 (by decide))]
theorem ib_big {z : Int} {c : Nat} (h : 32 ≤ c) : ib z c = false := BitVec.getLsbD_of_ge _ _ h
theorem ib_shl' {a c : Nat} (ha : a < 32) : ib (iShl 1 (a : Int)) c = decide (c = a) := by
  rcases Nat.lt_or_ge c 32 with h | h
  · exact ib_shl ha h
  · rw [ib_big h, decide_eq_false (by omega)]
theorem gnN_1 {N : Sto} {r : Nat} (hr : r < 32) : gnN N (iShl 1 (r : Int)) = up N 1 r 20 := by
  funext a x
  unfold gnN up
  rw [ib_shl' hr]
  by_cases c : a = 1 ∧ x = r
  · rw [if_pos c, if_pos ⟨c.1, decide_eq_true c.2⟩]
  · rw [if_neg c, if_neg (fun q => c ⟨q.1, of_decide_eq_true q.2⟩)]
theorem gnN_2 {N : Sto} {q r : Nat} (hq : q < 32) (hr : r < 32) : gnN N (iO (iShl 1 (q : Int)) (iShl 1 (r : Int))) = up (up N 1 q 20) 1 r 20 := by
  funext a x
  unfold gnN up
  rw [ib_O, ib_shl' hr, ib_shl' hq]
  by_cases c : a = 1 ∧ x = r
  · rw [if_pos c, if_pos ⟨c.1, by rw [decide_eq_true c.2, Bool.or_true]⟩]
  · rw [if_neg c]
    by_cases d : a = 1 ∧ x = q
    · rw [if_pos d, if_pos ⟨d.1, by rw [decide_eq_true d.2, Bool.true_or]⟩]
    · rw [if_neg d, if_neg (fun w => ?_)]
      have := w.2
      rw [Bool.or_eq_true, decide_eq_true_iff, decide_eq_true_iff] at this
      rcases this with e | e
      · exact d ⟨w.1, e⟩
      · exact c ⟨w.1, e⟩
theorem clN_1 {N : Sto} {k : Nat} (hk : k < 32) : clN N (iShl 1 (k : Int)) = up N 9 k (-1) := by
  funext a x
  unfold clN up
  rw [ib_shl' hk]
  by_cases c : a = 9 ∧ x = k
  · rw [if_pos c, if_pos ⟨c.1, decide_eq_true c.2⟩]
  · rw [if_neg c, if_neg (fun q => c ⟨q.1, of_decide_eq_true q.2⟩)]
theorem NtM_gone {N s : Sto} {g : Int} (h : NtM N s) (h0 : s 69 25 = 0) : NtM (gnN N g) (up s 69 25 g) := by
  obtain ⟨h1, h2, h3, h4, h5, h6, h7, h8, h9⟩ := h
  have e : ∀ c y, c ≠ 1 → gnN N g c y = N c y := fun c y q => by unfold gnN; rw [if_neg (fun w => q w.1)]
  have f : ∀ c y, c ≠ 69 ∨ y ≠ 25 → up s 69 25 g c y = s c y := fun c y q => up_c2 (by omega)
  have e76 : up s 69 25 g 76 = s 76 := funext (fun b => f 76 b (by omega))
  refine ⟨?_, ?_, ?_, ?_, fun y hy => ?_, fun y hy => ?_, fun k hk => ?_, fun c hc => ?_, fun c w hc hw => ?_⟩
  · rw [f _ _ (by omega), e _ _ (by decide)]; exact h1
  · rw [f _ _ (by omega), e _ _ (by decide)]; exact h2
  · rw [f _ _ (by omega), e _ _ (by decide)]; exact h3
  · rw [f _ _ (by omega), e _ _ (by decide)]; exact h4
  · rw [e _ _ (by decide)] at hy
    obtain ⟨k0, k1, k2, k3, k4, k5⟩ := h5 y hy
    rw [h0, ib_0] at k1
    rw [up_at, f _ _ (by omega), f _ _ (by omega), f _ _ (by omega), f _ _ (by omega), f _ _ (by omega), e 2 _ (by decide), e 3 _ (by decide), e 4 _ (by decide), e 5 _ (by decide)]
    refine ⟨fun q => ?_, fun q => ?_, k2, k3, k4, k5⟩
    · unfold gnN; rw [if_pos ⟨rfl, q⟩]
    · unfold gnN; rw [if_neg (fun w => by rw [q] at w; exact absurd w.2 (by decide))]; exact k1 rfl
  · rw [e _ _ (by decide)] at hy
    rw [f _ _ (by omega), f _ _ (by omega), f _ _ (by omega), e _ _ (by decide), e _ _ (by decide), e _ _ (by decide)]; exact h6 y hy
  · rw [f 69 26 (by omega), f _ _ (by omega), e _ _ (by decide)]; exact h7 k hk
  · rw [e _ _ (by decide)] at hc
    rw [f _ _ (by omega), e _ _ (by decide)]; exact h8 c hc
  · rw [e _ _ (by decide)] at hc
    rw [e _ _ (by decide)]
    obtain ⟨g1, g2⟩ := beside_cg (c := (c : Int)) (w := (w : Int)) (f 69 7 (by omega)) (f 69 8 (by omega)) e76
    obtain ⟨k1, k2⟩ := h9 c w hc hw
    exact ⟨by rw [g1]; exact k1, g2 k2⟩
theorem NtM_calm {N s : Sto} {g : Int} (h : NtM N s) (h0 : s 69 26 = 0) : NtM (clN N g) (up s 69 26 g) := by
  obtain ⟨h1, h2, h3, h4, h5, h6, h7, h8, h9⟩ := h
  have e : ∀ c y, c ≠ 9 → clN N g c y = N c y := fun c y q => by unfold clN; rw [if_neg (fun w => q w.1)]
  have f : ∀ c y, c ≠ 69 ∨ y ≠ 26 → up s 69 26 g c y = s c y := fun c y q => up_c2 (by omega)
  have e76 : up s 69 26 g 76 = s 76 := funext (fun b => f 76 b (by omega))
  refine ⟨?_, ?_, ?_, ?_, fun y hy => ?_, fun y hy => ?_, fun k hk => ?_, fun c hc => ?_, fun c w hc hw => ?_⟩
  · rw [f _ _ (by omega), e _ _ (by decide)]; exact h1
  · rw [f _ _ (by omega), e _ _ (by decide)]; exact h2
  · rw [f _ _ (by omega), e _ _ (by decide)]; exact h3
  · rw [f _ _ (by omega), e _ _ (by decide)]; exact h4
  · rw [e _ _ (by decide)] at hy
    rw [f 69 25 (by omega), f _ _ (by omega), f _ _ (by omega), f _ _ (by omega), f _ _ (by omega), f _ _ (by omega), e _ _ (by decide), e _ _ (by decide), e _ _ (by decide), e _ _ (by decide), e _ _ (by decide)]
    exact h5 y hy
  · rw [e _ _ (by decide)] at hy
    rw [f _ _ (by omega), f _ _ (by omega), f _ _ (by omega), e _ _ (by decide), e _ _ (by decide), e _ _ (by decide)]; exact h6 y hy
  · have := h7 k hk
    rw [h0, ib_0, if_neg (by decide)] at this
    rw [up_at, f _ _ (by omega), ← this]
    unfold clN
    by_cases q : ib g k = true
    · rw [if_pos ⟨rfl, q⟩, if_pos q]
    · rw [if_neg (fun w => q w.2), if_neg q]
  · rw [e _ _ (by decide)] at hc
    rw [f _ _ (by omega), e _ _ (by decide)]; exact h8 c hc
  · rw [e _ _ (by decide)] at hc
    rw [e _ _ (by decide)]
    obtain ⟨g1, g2⟩ := beside_cg (c := (c : Int)) (w := (w : Int)) (f 69 7 (by omega)) (f 69 8 (by omega)) e76
    obtain ⟨k1, k2⟩ := h9 c w hc hw
    exact ⟨by rw [g1]; exact k1, g2 k2⟩
