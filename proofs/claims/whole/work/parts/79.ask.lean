/-! ===== ask ===== -/
def tkC (N : Sto) (n : Nat) (th oc : Nat → Int) (i t : Nat) (o : Int) : Int := cntB (fun r => soB (up N 1 r 20) n th oc && decide (whm (up N 1 r 20) (sm (up N 1 r 20) 20) t = o)) i
def mx5 (g : Nat → Int) : Nat → Int
  | 0 => 0
  | k + 1 => if g k ≤ mx5 g k then mx5 g k else g k
theorem mx5_is (g : Nat → Int) : ∀ k : Nat, 0 ≤ mx5 g k ∧ (∀ j, j < k → g j ≤ mx5 g k) ∧ (mx5 g k = 0 ∨ ∃ j, j < k ∧ mx5 g k = g j) := by
  intro k
  induction k with
  | zero => exact ⟨Int.le_refl _, fun j q => absurd q (Nat.not_lt_zero j), Or.inl rfl⟩
  | succ k ih =>
    obtain ⟨h1, h2, h3⟩ := ih
    unfold mx5
    by_cases c : g k ≤ mx5 g k
    · rw [if_pos c]
      refine ⟨h1, fun j hj => ?_, h3.elim Or.inl (fun ⟨j, q1, q2⟩ => Or.inr ⟨j, by omega, q2⟩)⟩
      by_cases w : j = k
      · rw [w]; exact c
      · exact h2 j (by omega)
    · rw [if_neg c]
      refine ⟨by omega, fun j hj => ?_, Or.inr ⟨k, by omega, rfl⟩⟩
      by_cases w : j = k
      · rw [w]; exact Int.le_refl _
      · have := h2 j (by omega); omega
def oix (o : Int) : Nat := if o = -1 then 4 else o.toNat
def gT (N : Sto) (n : Nat) (th oc : Nat → Int) (t : Nat) : Int := mx5 (fun k => tkC N n th oc (nR N) t ((k : Int) - 1)) 5
def ak (N : Sto) (n : Nat) (th oc : Nat → Int) : Nat → Int × Int
  | 0 => (-1, 9)
  | t + 1 => if (ak N n th oc t).2 ≤ gT N n th oc t then ak N n th oc t else ((t : Int), gT N n th oc t)
theorem ak_s {N : Sto} {n t : Nat} {th oc : Nat → Int} : ak N n th oc (t + 1) = if (ak N n th oc t).2 ≤ gT N n th oc t then ak N n th oc t else ((t : Int), gT N n th oc t) := rfl
theorem tkC_rng {N : Sto} {n i t : Nat} {th oc : Nat → Int} {o : Int} : 0 ≤ tkC N n th oc i t o ∧ tkC N n th oc i t o ≤ (i : Int) := cntB_rng _ _
theorem gT_rng {N : Sto} {n t : Nat} {th oc : Nat → Int} (hN : NOk N) : 0 ≤ gT N n th oc t ∧ gT N n th oc t ≤ 8 := by
  have h8 := (nR8 hN).1
  obtain ⟨h1, h2, h3⟩ := mx5_is (fun k => tkC N n th oc (nR N) t ((k : Int) - 1)) 5
  refine ⟨h1, ?_⟩
  unfold gT
  rcases h3 with q | ⟨j, q1, q2⟩
  · rw [q]; decide
  · rw [q2]
    have := tkC_rng (N := N) (n := n) (i := nR N) (t := t) (th := th) (oc := oc) (o := (j : Int) - 1)
    omega
/-- what the class's tally holds behind i rings -/
def TlC (N : Sto) (n : Nat) (th oc : Nat → Int) (i : Nat) (s : Sto) : Prop := ∀ t : Nat, t < 8 → ∀ o : Int, -1 ≤ o → o ≤ 3 → (t : Int) < N 0 6 → s 65 (5 * t + oix o) = tkC N n th oc i t o
theorem oix_lt {o : Int} (h : -1 ≤ o) (h2 : o ≤ 3) : oix o < 5 := by unfold oix; split <;> omega
theorem oix_inj {o p : Int} (h : -1 ≤ o) (h3 : -1 ≤ p) (h2 : o ≤ 3) (h4 : p ≤ 3) (e : oix o = oix p) : o = p := by
  unfold oix at e
  by_cases c1 : o = -1
  · by_cases c2 : p = -1
    · omega
    · rw [if_pos c1, if_neg c2] at e; omega
  · by_cases c2 : p = -1
    · rw [if_neg c1, if_pos c2] at e; omega
    · rw [if_neg c1, if_neg c2] at e; omega
theorem ix5o {t : Nat} {z : Int} (ht : t < 8) (hz : 0 ≤ z ∧ z ≤ 4) : w32 (w32 ((t : Int) * 5) + z) = 5 * (t : Int) + z := by
  rw [w32_of (z := (t : Int) * 5) (by omega) (by omega), w32_of (by omega) (by omega)]
  omega
theorem T_tally {M s : Sto} {cnt : Nat → Int → Int} {Q : Int → Sto → Prop} (hM : NOk M) (hC : NtC M 44 s) (hP : Ply M 54 (sm M 20) s) (hc : ∀ t : Nat, t < 8 → ∀ o : Int, -1 ≤ o → o ≤ 3 → (t : Int) < M 0 6 → s 65 (5 * t + oix o) = cnt t o ∧ 0 ≤ cnt t o ∧ cnt t o ≤ 100) (k : ∀ u, (∀ t : Nat, t < 8 → ∀ o : Int, -1 ≤ o → o ≤ 3 → (t : Int) < M 0 6 → u 65 (5 * t + oix o) = cnt t o + (if whm M (sm M 20) t = o then 1 else 0)) → Same (fun a _ => a = 65) s u → Q 0 u) : P_X3_tallyOutcomes s Q := by
  obtain ⟨n1, n2, n3⟩ := nT8 hM
  unfold P_X3_tallyOutcomes
  refine lp2 (L_X3_tallyOutcomes_2 _) (fun y u => ∃ i : Nat, y = (i : Int) ∧ i ≤ nT M ∧ (∀ t : Nat, t < 8 → ∀ o : Int, -1 ≤ o → o ≤ 3 → (t : Int) < M 0 6 → u 65 (5 * t + oix o) = cnt t o + (if t < i ∧ whm M (sm M 20) t = o then 1 else 0)) ∧ Same (fun a _ => a = 65) s u) (fun y _ => (9 - y).toNat) ?_ 0 s ⟨0, rfl, Nat.zero_le _, fun t ht o q1 q2 q3 => by rw [(hc t ht o q1 q2 q3).1, if_neg (fun w => Nat.not_lt_zero t w.1), Int.add_zero], Same.rfl'⟩
  intro m y u ⟨i, hy, hi, hu, hSu⟩ ih
  subst hy
  have hw := (ix3 (Nat.le_trans hi n1)).2.2.1
  have hmu := mu9 (Nat.le_trans hi n1)
  have e6 : u 44 6 = M 0 6 := (hSu _ _ (by omega)).trans hC.2.1
  unfold L_X3_tallyOutcomes_2
  rw [e6, hw]
  clear hw
  refine ⟨fun c => ?_, fun c => ?_⟩
  · have q := n2 i hi c
    subst q
    refine k u (fun t ht o q1 q2 q3 => ?_) hSu
    rw [hu t ht o q1 q2 q3]
    by_cases w : whm M (sm M 20) t = o
    · rw [if_pos w, if_pos ⟨by unfold nT; omega, w⟩]
    · rw [if_neg w, if_neg (fun z => w z.2)]
  · obtain ⟨i8, it, i1⟩ := n3 i hi c
    have hPu : Ply M 54 (sm M 20) u := Ply_cg hP (fun a b q => hSu a b (by omega))
    obtain ⟨o1, o2⟩ := outc_v hPu i8 it
    have hr := whm_rng hM it
    have e4 : (if whm M (sm M 20) i = -1 then 4 else whm M (sm M 20) i) = ((oix (whm M (sm M 20) i) : Nat) : Int) := by
      unfold oix
      by_cases w : whm M (sm M 20) i = -1
      · rw [if_pos w, if_pos w]; rfl
      · rw [if_neg w, if_neg w]; omega
    have hlt := oix_lt hr.1 hr.2
    rw [o1, e4, ix5o i8 (by omega)]
    refine ⟨o2, fun x3 e3 => ⟨fun q => by omega, fun _ => ⟨fun q => by omega, fun _ => ⟨⟨by omega, by omega⟩, ⟨by omega, by omega⟩, fun s8 e8 => ?_⟩⟩⟩⟩
    have ex : x3.toNat = 5 * i + oix (whm M (sm M 20) i) := by omega
    have hv := hu i i8 (whm M (sm M 20) i) hr.1 hr.2 it
    rw [if_neg (fun w => Nat.lt_irrefl i w.1), Int.add_zero] at hv
    obtain ⟨-, hb1, hb2⟩ := hc i i8 (whm M (sm M 20) i) hr.1 hr.2 it
    rw [ex, hv, w32_of (by omega) (by omega)] at e8
    refine ih _ _ ⟨i + 1, rfl, i1, fun t ht o q1 q2 q3 => ?_, by rw [e8]; exact hSu.up rfl⟩ hmu
    have ho := oix_lt q1 q2
    rw [e8]
    by_cases w : t = i
    · rw [w]
      by_cases w2 : whm M (sm M 20) i = o
      · rw [← w2, up_at, if_pos ⟨Nat.lt_succ_self i, rfl⟩]
      · rw [up_j (fun z => w2 (oix_inj hr.1 q1 hr.2 q2 (by omega))), if_neg (fun z => w2 z.2)]
        have := hu i i8 o q1 q2 it
        rw [if_neg (fun z => w2 z.2)] at this
        exact this
    · rw [up_j (by omega), hu t ht o q1 q2 q3]
      by_cases w2 : t < i ∧ whm M (sm M 20) t = o
      · rw [if_pos w2, if_pos ⟨by omega, w2.2⟩]
      · rw [if_neg w2, if_neg (fun z => w2 ⟨by omega, z.2⟩)]
theorem tkC_s {N : Sto} {n i t : Nat} {th oc : Nat → Int} {o : Int} : tkC N n th oc (i + 1) t o = tkC N n th oc i t o + (if soB (up N 1 i 20) n th oc = true ∧ whm (up N 1 i 20) (sm (up N 1 i 20) 20) t = o then 1 else 0) := by
  have e : tkC N n th oc (i + 1) t o = tkC N n th oc i t o + (if (soB (up N 1 i 20) n th oc && decide (whm (up N 1 i 20) (sm (up N 1 i 20) 20) t = o)) = true then 1 else 0) := rfl
  rw [e]
  congr 1
  by_cases w : soB (up N 1 i 20) n th oc = true ∧ whm (up N 1 i 20) (sm (up N 1 i 20) 20) t = o
  · rw [if_pos w, w.1, decide_eq_true w.2]; rfl
  · rw [if_neg w, if_neg (fun z => w ?_)]
    rw [Bool.and_eq_true] at z
    exact ⟨z.1, of_decide_eq_true z.2⟩
theorem T_cask {N s : Sto} {n : Nat} {th oc : Nat → Int} {Q : Int → Sto → Prop} (hN : NOk N) (hC : NtC N 6 s) (hG : SgC n th oc s) (k : ∀ t, Same DScr s t → Q (ak N n th oc (nT N)).1 t) : P_X3_bestAsk s Q := by
  obtain ⟨r1, r2, r3⟩ := nR8 hN
  obtain ⟨n1, n2, n3⟩ := nT8 hN
  unfold P_X3_bestAsk
  refine T_fill (fun s1 hf hS1 => ?_)
  have hS1' : Same DScr s s1 := hS1.mono (fun a b q => by unfold DScr; omega)
  refine T_becomes hN (NtC6_sc hC hS1') (fun t hCt hSt => ?_)
  have hTl0 : TlC N n th oc 0 t := fun x hx o q1 q2 _ => by
    have := oix_lt q1 q2
    rw [hSt _ _ (by omega), hf _ (show 5 * x + oix o < 40 by omega)]; rfl
  refine lp2 (L_X3_bestAsk_21 _) (fun y u => ∃ i : Nat, y = (i : Int) ∧ i ≤ nR N ∧ NtC N 44 u ∧ TlC N n th oc i u ∧ Same DScr s u) (fun y _ => (9 - y).toNat) ?_ 0 t ⟨0, rfl, Nat.zero_le _, hCt, hTl0, hS1'.trans (Same_tr hSt)⟩
  intro m y u ⟨i, hy, hi, hCu, hTu, hSu⟩ ih
  subst hy
  have hw := (ix3 (Nat.le_trans hi r1)).2.2.1
  have hmu := mu9 (Nat.le_trans hi r1)
  unfold L_X3_bestAsk_21
  rw [hCu.1, Int.toNat_natCast, hw]
  clear hw
  refine ⟨fun c => ?_, fun c => ?_⟩
  · -- the least of the greatest
    have q := r2 i hi c
    subst q
    refine lp4 (L_X3_bestAsk_107 _) (fun b l y v => v = u ∧ ∃ x : Nat, y = (x : Int) ∧ x ≤ nT N ∧ b = (ak N n th oc x).1 ∧ l = (ak N n th oc x).2) (fun _ _ y _ => (9 - y).toNat) ?_ (-1) 9 0 u ⟨rfl, 0, rfl, Nat.zero_le _, rfl, rfl⟩
    intro m b l y v ⟨hv, x, hy, hx, hb, hl⟩ ih2
    subst hy
    subst hv
    have hw := (ix3 (Nat.le_trans hx n1)).2.2.1
    have hmu := mu9 (Nat.le_trans hx n1)
    unfold L_X3_bestAsk_107
    rw [hCu.2.1, hw]
    clear hw
    refine ⟨fun c => ?_, fun c => ?_⟩
    · have q := n2 x hx c
      subst q
      rw [hb]
      exact k v hSu
    · obtain ⟨x8, hxt, x1⟩ := n3 x hx c
      have hfin : ∀ g, g = gT N n th oc x → ((l ≤ g → L_X3_bestAsk_107 (fun x6 s7 => Q x6 s7) m b l ((x + 1 : Nat) : Int) v) ∧ (¬ l ≤ g → L_X3_bestAsk_107 (fun x6 s7 => Q x6 s7) m (x : Int) g ((x + 1 : Nat) : Int) v)) := by
        intro g hg
        rw [hl, hg]
        refine ⟨fun q => hl ▸ ih2 _ _ _ _ ⟨rfl, x + 1, rfl, x1, ?_, ?_⟩ hmu, fun q => ih2 _ _ _ _ ⟨rfl, x + 1, rfl, x1, ?_, ?_⟩ hmu⟩
        · rw [ak_s, if_pos q]; exact hb
        · rw [ak_s, if_pos q]; exact hl
        · rw [ak_s, if_neg q]
        · rw [ak_s, if_neg q]
      unfold P_X3_greatestTally
      intro y1 ey1
      have ey : y1 = 5 * (x : Int) := by rw [ey1, w32_of (by omega) (by omega)]; omega
      clear ey1
      subst ey
      have e5 : w32 (((x + 1 : Nat) : Int) * 5) = 5 * (x : Int) + 5 := by rw [w32_of (by omega) (by omega)]; omega
      have hxp := (ix3 (j := x) (by omega)).2.2.1
      -- the greatest of five
      refine lp2 (L_X3_greatestTally_6 (x : Int) v _) (fun g y => ∃ j : Nat, y = 5 * (x : Int) + (j : Int) ∧ j ≤ 5 ∧ 0 ≤ g ∧ (∀ i, i < j → v 65 (5 * x + i) ≤ g) ∧ (g = 0 ∨ ∃ i, i < j ∧ g = v 65 (5 * x + i))) (fun _ y => (5 * (x : Int) + 6 - y).toNat) ?_ 0 (5 * (x : Int)) ⟨0, by omega, by omega, Int.le_refl _, fun i q => absurd q (Nat.not_lt_zero i), Or.inl rfl⟩
      intro m2 g y2 ⟨j, hy2, hj, hg0, hg1, hg2⟩ ih3
      subst hy2
      have fin : j = 5 → g = gT N n th oc x := by
        intro q
        subst q
        obtain ⟨h1, h2, h3⟩ := mx5_is (fun k => tkC N n th oc (nR N) x ((k : Int) - 1)) 5
        have tv : ∀ o : Int, -1 ≤ o → o ≤ 3 → v 65 (5 * x + oix o) = tkC N n th oc (nR N) x o := fun o q1 q2 => hTu x x8 o q1 q2 hxt
        have o4 : oix (-1) = 4 := by decide
        have t4 : v 65 (5 * x + 4) = tkC N n th oc (nR N) x (-1) := by
          rw [← o4]
          exact tv (-1) (by decide) (by decide)
        have t0 : v 65 (5 * x + 0) = tkC N n th oc (nR N) x 0 := tv 0 (by decide) (by decide)
        have t1 : v 65 (5 * x + 1) = tkC N n th oc (nR N) x 1 := tv 1 (by decide) (by decide)
        have t2 : v 65 (5 * x + 2) = tkC N n th oc (nR N) x 2 := tv 2 (by decide) (by decide)
        have t3 : v 65 (5 * x + 3) = tkC N n th oc (nR N) x 3 := tv 3 (by decide) (by decide)
        have le1 : g ≤ gT N n th oc x := by
          rcases hg2 with q | ⟨i, q1, q2⟩
          · rw [q]; exact h1
          · rw [q2]
            have hi5 : i = 4 ∨ i = 0 ∨ i = 1 ∨ i = 2 ∨ i = 3 := by omega
            rcases hi5 with rfl | rfl | rfl | rfl | rfl
            · rw [t4]; exact h2 0 (by decide)
            · rw [t0]; exact h2 1 (by decide)
            · rw [t1]; exact h2 2 (by decide)
            · rw [t2]; exact h2 3 (by decide)
            · rw [t3]; exact h2 4 (by decide)
        have le2 : gT N n th oc x ≤ g := by
          rcases h3 with q | ⟨i, q1, q2⟩
          · show mx5 _ 5 ≤ g
            rw [q]; exact hg0
          · show mx5 _ 5 ≤ g
            rw [q2]
            have hi5 : i = 0 ∨ i = 1 ∨ i = 2 ∨ i = 3 ∨ i = 4 := by omega
            rcases hi5 with rfl | rfl | rfl | rfl | rfl
            · show tkC N n th oc (nR N) x (-1) ≤ g
              rw [← t4]; exact hg1 4 (by decide)
            · show tkC N n th oc (nR N) x 0 ≤ g
              rw [← t0]; exact hg1 0 (by decide)
            · show tkC N n th oc (nR N) x 1 ≤ g
              rw [← t1]; exact hg1 1 (by decide)
            · show tkC N n th oc (nR N) x 2 ≤ g
              rw [← t2]; exact hg1 2 (by decide)
            · show tkC N n th oc (nR N) x 3 ≤ g
              rw [← t3]; exact hg1 3 (by decide)
        omega
      unfold L_X3_greatestTally_6
      rw [hxp, e5]
      refine ⟨fun q => hfin g (fin (by clear hxp e5; omega)), fun q => ⟨fun q2 => by clear hxp e5; omega, fun q2 => ?_⟩⟩
      have ej : (5 * (x : Int) + (j : Int)).toNat = 5 * x + j := by clear hxp e5; omega
      have ew : w32 (5 * (x : Int) + (j : Int) + 1) = 5 * (x : Int) + ((j + 1 : Nat) : Int) := by clear hxp e5; rw [w32_of (by omega) (by omega)]; omega
      clear hxp e5
      rw [ej, ew]
      clear ew
      refine ⟨⟨by omega, by omega⟩, fun x4 e4 => ih3 _ _ ⟨j + 1, rfl, by omega, ?_, fun i hi => ?_, ?_⟩ (by omega)⟩
      · rw [e4, max_v]; split <;> omega
      · rw [e4, max_v]
        by_cases w : i = j
        · rw [w]; split <;> omega
        · have := hg1 i (by omega); split <;> omega
      · rw [e4, max_v]
        by_cases w : g < v 65 (5 * x + j)
        · rw [if_pos w]; exact Or.inr ⟨j, by omega, rfl⟩
        · rw [if_neg w]
          exact hg2.elim Or.inl (fun ⟨i, w1, w2⟩ => Or.inr ⟨i, by omega, w2⟩)
  · obtain ⟨i8, hir, i1⟩ := r3 i hi c
    refine ⟨inb8 i8, fun s3 e3 => ?_⟩
    have hC3 : NtC (up N 1 i 20) 44 s3 := by
      have := NtC_up (a := 1) (b := i) (z := 20) hCu (by omega)
      rw [e3]
      exact this
    have hS3 : Same DScr s s3 := by rw [e3]; exact DScr_tr hSu (by omega)
    refine T_playAll (Or.inr rfl) (Or.inr rfl) (NOk_1 hN) hC3 (fun s4 hP4 hS4 => ?_)
    have hC4 := NtC_cg (Or.inr rfl) (Or.inr rfl) hC3 hS4
    have hS4' := hS3.trans (Same_pl hS4)
    have e65 : ∀ b, s4 65 b = u 65 b := fun b => by rw [hS4 _ _ (by unfold DPl; omega), e3, up_c (by decide)]
    have restore : ∀ v, NtC (up N 1 i 20) 44 v → TlC N n th oc (i + 1) v → Same DScr s v → ∀ s11, s11 = up v 45 i (v 7 i) → L_X3_bestAsk_21 (fun s5 => (∃ n8, L_X3_bestAsk_107 (fun x6 s7 => Q x6 s7) n8 ((-1)) 9 0 s5)) m ((i + 1 : Nat) : Int) s11 := by
      intro v hCv hTv hSv s11 e11
      have h7 : v 7 i = N 1 i := (NtC6_sc hC hSv).2.2.2.2.1 i hir |>.1
      rw [h7] at e11
      refine ih _ _ ⟨i + 1, rfl, i1, ?_, fun t ht o q1 q2 q3 => by rw [e11, up_c (by decide)]; exact hTv t ht o q1 q2 q3, by rw [e11]; exact DScr_tr hSv (by omega)⟩ hmu
      have := NtC_up (a := 1) (b := i) (z := N 1 i) hCv (by omega)
      rw [up_up, up_self] at this
      rw [e11]
      exact this
    refine T_allSo (NOk_1 hN) hC4 hP4 (SgC_cg hG (fun a b q1 q2 => hS4' a b (by unfold DScr; omega))) ⟨fun q => ⟨inb8 i8, inb8 i8, restore s4 hC4 (fun t ht o q1 q2 q3 => ?_) hS4'⟩, fun q => ?_⟩
    · rw [e65, hTu t ht o q1 q2 q3, tkC_s, if_neg (fun w => by rw [w.1, if_pos rfl] at q; exact absurd q (by decide)), Int.add_zero]
    · have hso : soB (up N 1 i 20) n th oc = true := by
        cases w : soB (up N 1 i 20) n th oc with
        | true => rfl
        | false => rw [w, if_neg Bool.false_ne_true] at q; exact absurd rfl q
      have e6 : up N 1 i 20 0 6 = N 0 6 := up_c (by decide)
      refine T_tally (cnt := fun t o => tkC N n th oc i t o) (NOk_1 hN) hC4 hP4 (fun t ht o q1 q2 q3 => ?_) (fun v hv hSv => ⟨inb8 i8, inb8 i8, restore v (NtC_keep hC4 (fun a b w => hSv a b (by omega))) (fun t ht o q1 q2 q3 => ?_) (hS4'.trans (hSv.mono (fun a b w => by unfold DScr; omega)))⟩)
      · rw [e6] at q3
        have := tkC_rng (N := N) (n := n) (i := i) (t := t) (th := th) (oc := oc) (o := o)
        exact ⟨by rw [e65]; exact hTu t ht o q1 q2 q3, by omega, by omega⟩
      · rw [hv t ht o q1 q2 (by rw [e6]; exact q3), tkC_s]
        by_cases w : whm (up N 1 i 20) (sm (up N 1 i 20) 20) t = o
        · rw [if_pos w, if_pos ⟨hso, w⟩]
        · rw [if_neg w, if_neg (fun z => w z.2)]
