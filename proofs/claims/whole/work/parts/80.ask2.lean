/-! ===== the reference asks ===== -/
def TlM (N : Sto) (n : Nat) (th oc : Nat → Int) (i : Nat) (s : Sto) : Prop := ∀ t : Nat, t < 8 → ∀ o : Nat, o < 5 → (t : Int) < N 0 6 → s 88 (5 * t + o) = tkC N n th oc i t ((o : Int) - 1)
theorem ix5m {t : Nat} {z : Int} (ht : t < 8) (hz : -1 ≤ z ∧ z ≤ 3) : w32 (w32 (w32 (5 * (t : Int)) + z) + 1) = 5 * (t : Int) + z + 1 := by
  rw [w32_of (z := 5 * (t : Int)) (by omega) (by omega), w32_of (z := 5 * (t : Int) + z) (by omega) (by omega), w32_of (by omega) (by omega)]
theorem Same_Mk {s t : Sto} {a b : Nat} {z : Int} (h : Same DScr s t) (ha : a = 88) : Same DScr s (up t a b z) := h.up (by unfold DScr; omega)
theorem T_mask {N s : Sto} {n : Nat} {th oc : Nat → Int} {Q : Int → Sto → Prop} (hN : NOk N) (hC : NtM N s) (h0 : s 69 25 = 0) (hG : SgM n th oc s) (k : ∀ t, NtM N t → t 69 25 = 0 → Same DScr s t → Q (ak N n th oc (nT N)).1 t) : P_X12_askNow s Q := by
  obtain ⟨r1, r2, r3⟩ := nR8 hN
  obtain ⟨n1, n2, n3⟩ := nT8 hN
  unfold P_X12_askNow
  refine T_mnever hN hC h0 hG (fun s1 hC1 h01 hS1 => ?_)
  generalize hnv : nvB N n th oc = nv
  refine lp2 (L_X12_askNow_7 nv _) (fun y u => ∃ i : Nat, y = (i : Int) ∧ i ≤ 40 ∧ (∀ j, j < i → u 88 j = 0) ∧ Same (fun a _ => a = 88) s1 u) (fun y _ => (41 - y).toNat) ?_ 0 s1 ⟨0, rfl, by omega, fun j q => absurd q (Nat.not_lt_zero j), Same.rfl'⟩
  intro m y u ⟨i, hy, hi, hz, hSu⟩ ih
  subst hy
  have hw := ixp (b := i) (by omega)
  unfold L_X12_askNow_7
  rw [Int.toNat_natCast, hw]
  clear hw
  refine ⟨fun c => ?_, fun c => ⟨⟨by omega, by omega⟩, fun s3 e3 => ih _ _ ⟨i + 1, rfl, by omega, fun j hj => ?_, by rw [e3]; exact hSu.up rfl⟩ (by omega)⟩⟩
  rotate_left
  · rw [e3]
    by_cases w : j = i
    · rw [w, up_at]
    · rw [up_j w]; exact hz j (by omega)
  have : i = 40 := by omega
  subst this
  have hCu : NtM N u := NtM_keep hC1 (fun a b q => hSu a b (by omega))
  have h0u : u 69 25 = 0 := (hSu _ _ (by omega)).trans h01
  have hzu : up u 69 25 0 = u := by rw [← h0u, up_self]
  have hSuu : Same DScr s u := hS1.trans (hSu.mono (fun a b q => by unfold DScr; omega))
  have hTl0 : TlM N n th oc 0 u := fun t ht o q1 _ => by rw [hz _ (show 5 * t + o < 40 by omega)]; rfl
  refine lp2 (L_X12_askNow_28 nv _) (fun y u => ∃ i : Nat, y = (i : Int) ∧ i ≤ nR N ∧ NtM N (up u 69 25 0) ∧ TlM N n th oc i u ∧ Same DScr s (up u 69 25 0)) (fun y _ => (9 - y).toNat) ?_ 0 u ⟨0, rfl, Nat.zero_le _, by rw [hzu]; exact hCu, hTl0, by rw [hzu]; exact hSuu⟩
  intro m y v ⟨i, hy, hi, hCv, hTv, hSv⟩ ih2
  subst hy
  have hw := (ix3 (Nat.le_trans hi r1)).2.2.1
  have hmu := mu9 (Nat.le_trans hi r1)
  have e14 : v 69 14 = N 0 0 := by have := hCv.1; rw [up_j (by decide)] at this; exact this
  unfold L_X12_askNow_28
  rw [e14, hw]
  clear hw
  refine ⟨fun c s5 e5 => ?_, fun c => ?_⟩
  · -- the least of the greatest
    have q := r2 i hi c
    subst q
    have hC5 : NtM N s5 := by rw [e5]; exact hCv
    have hS5 : Same DScr s s5 := by rw [e5]; exact hSv
    have hT5 : TlM N n th oc (nR N) s5 := fun t ht o q1 q2 => by rw [e5, up_c (by decide)]; exact hTv t ht o q1 q2
    have kk := k s5 hC5 (by rw [e5, up_at]) hS5
    refine lp3 (L_X12_askNow_109 s5 _) (fun b l y => ∃ x : Nat, y = (x : Int) ∧ x ≤ nT N ∧ b = (ak N n th oc x).1 ∧ (¬ b = -1 → l = (ak N n th oc x).2) ∧ (b = -1 → (ak N n th oc x).2 = 9)) (fun _ _ y => (9 - y).toNat) ?_ (-1) 0 0 ⟨0, rfl, Nat.zero_le _, rfl, fun q => absurd rfl q, fun _ => rfl⟩
    intro m b l y ⟨x, hy, hx, hb, hl, hl2⟩ ih3
    subst hy
    have hw := (ix3 (Nat.le_trans hx n1)).2.2.1
    have hmu := mu9 (Nat.le_trans hx n1)
    unfold L_X12_askNow_109
    rw [hC5.2.1, hw]
    clear hw
    refine ⟨fun c => ?_, fun c => ?_⟩
    · have q := n2 x hx c
      subst q
      rw [hb]
      exact kk
    · obtain ⟨x8, hxt, x1⟩ := n3 x hx c
      have hgr := gT_rng (n := n) (t := x) (th := th) (oc := oc) hN
      refine lp2 (L_X12_askNow_124 b l (x : Int) s5 _) (fun g y => ∃ j : Nat, y = (j : Int) ∧ j ≤ 5 ∧ g = mx5 (fun k => tkC N n th oc (nR N) x ((k : Int) - 1)) j) (fun _ y => (6 - y).toNat) ?_ 0 0 ⟨0, rfl, by omega, rfl⟩
      intro m2 g y2 ⟨j, hy2, hj, hg⟩ ih4
      subst hy2
      unfold L_X12_askNow_124
      refine ⟨fun q x3 e3 x6 e6 x8' e8 => ?_, fun q => ?_⟩
      · have : j = 5 := by omega
        subst this
        have hgg : g = gT N n th oc x := hg
        refine ih3 _ _ _ ⟨x + 1, rfl, x1, ?_, fun q2 => ?_, fun q2 => ?_⟩ hmu
        all_goals
          have hcase : (x3 = 0 ∧ (ak N n th oc x).2 ≤ gT N n th oc x ∧ ¬ b = -1) ∨ (x3 = 1 ∧ ¬ (ak N n th oc x).2 ≤ gT N n th oc x) := by
            rw [e3, hgg]
            by_cases w : b = -1
            · rw [if_pos w]
              have := hl2 w
              exact Or.inr ⟨rfl, by omega⟩
            · rw [if_neg w, hl w]
              by_cases w2 : (ak N n th oc x).2 ≤ gT N n th oc x
              · rw [if_pos w2]; exact Or.inl ⟨rfl, w2, w⟩
              · rw [if_neg w2]; exact Or.inr ⟨rfl, w2⟩
        · rw [ak_s, e6]
          rcases hcase with ⟨w1, w2, w3⟩ | ⟨w1, w2⟩
          · rw [if_pos w1, if_pos w2]; exact hb
          · rw [if_neg (by omega), if_neg w2]
        · rw [ak_s, e8]
          rcases hcase with ⟨w1, w2, w3⟩ | ⟨w1, w2⟩
          · rw [if_pos w1, if_pos w2]; exact hl w3
          · rw [if_neg (by omega), if_neg w2]; exact hgg
        · exfalso
          rw [e6] at q2
          rcases hcase with ⟨w1, w2, w3⟩ | ⟨w1, w2⟩
          · rw [if_pos w1] at q2; exact w3 q2
          · rw [if_neg (by omega)] at q2; omega
      · have hj5 : j < 5 := by omega
        have hj1 : j < 1000 := by omega
        obtain ⟨e2, e3⟩ := ix5v x8 hj5
        rw [ix5w x8 hj5, e2, ixp hj1]
        have hv := hT5 x x8 j hj5 hxt
        refine ⟨e3, fun x3 ex3 => ih4 _ _ ⟨j + 1, rfl, by omega, ?_⟩ (by omega)⟩
        rw [ex3, hv, hg]
        rfl
  · obtain ⟨i8, hir, i1⟩ := r3 i hi c
    have hbit : ib nv i = soB (up N 1 i 20) n th oc := by
      rw [← hnv]
      unfold nvB
      rw [bitsB_ib (nR N) (by omega) i (by omega), decide_eq_true (show i < nR N by omega), Bool.true_and]
    rw [isIn_v (by omega), hbit]
    refine ⟨fun q => ?_, fun q s4 e4 => ?_⟩
    · have hso : ¬ soB (up N 1 i 20) n th oc = true := fun w => by rw [if_pos w] at q; exact absurd q (by decide)
      refine ih2 _ _ ⟨i + 1, rfl, i1, hCv, fun t ht o q1 q2 => ?_, hSv⟩ hmu
      rw [hTv t ht o q1 q2, tkC_s, if_neg (fun w => hso w.1), Int.add_zero]
    · have hso : soB (up N 1 i 20) n th oc = true := by
        cases w : soB (up N 1 i 20) n th oc with
        | true => rfl
        | false => rw [w, if_neg Bool.false_ne_true] at q; exact absurd rfl q
      have hC4 := NtM_gone (g := iShl 1 (i : Int)) hCv up_at
      rw [up_up, gnN_1 (by omega), ← e4] at hC4
      have hNi := NOk_1 (a := i) hN
      have e06 : up N 1 i 20 0 6 = N 0 6 := up_c (by decide)
      refine T_lives hNi hC4 (fun s5 hP5 _ hS5 => ?_)
      have hC5 := NtM_cg hC4 hS5
      have hI5 := (sm_inv hNi 20 (Nat.le_refl 20)).1.2
      have e88 : ∀ b, s5 88 b = v 88 b := fun b => by rw [hS5 _ _ (by unfold DMl; omega), e4, up_c (by decide)]
      have hb0 : Same DMl (up v 69 25 0) (up s5 69 25 0) := by
        intro a d hd
        by_cases q : a = 69 ∧ d = 25
        · rw [q.1, q.2, up_at, up_at]
        · rw [up_c2 q, up_c2 q, hS5 a d hd, e4, up_c2 q]
      have hC50 : NtM N (up s5 69 25 0) := NtM_cg hCv hb0
      have hS50 : Same DScr s (up s5 69 25 0) := hSv.trans (Same_Ml hb0)
      refine lp2 (L_X12_askNow_57 nv (i : Int) _) (fun y w => ∃ t : Nat, y = (t : Int) ∧ t ≤ nT N ∧ Same (fun a _ => a = 88) s5 w ∧ (∀ x : Nat, x < 8 → ∀ o : Nat, o < 5 → (x : Int) < N 0 6 → w 88 (5 * x + o) = tkC N n th oc i x ((o : Int) - 1) + (if x < t ∧ whm (up N 1 i 20) (sm (up N 1 i 20) 20) x = (o : Int) - 1 then 1 else 0))) (fun y _ => (9 - y).toNat) ?_ 0 s5 ⟨0, rfl, Nat.zero_le _, Same.rfl', fun x hx o q1 q2 => by rw [e88, hTv x hx o q1 q2, if_neg (fun w => Nat.not_lt_zero x w.1), Int.add_zero]⟩
      intro m2 y w ⟨t, hy, ht, hSw, htl⟩ ih3
      subst hy
      have hwt := (ix3 (Nat.le_trans ht n1)).2.2.1
      have hmut := mu9 (Nat.le_trans ht n1)
      have hCw : NtM (up N 1 i 20) w := NtM_keep hC5 (fun a b q => hSw a b (by omega))
      have hPw : PlM (up N 1 i 20) (sm (up N 1 i 20) 20) w := by
        obtain ⟨p1, p2, p3, p4⟩ := hP5
        exact ⟨fun r hr => by rw [hSw _ _ (by omega), hSw _ _ (by omega), hSw _ _ (by omega), hSw _ _ (by omega)]; exact p1 r hr, fun x hx => by rw [hSw _ _ (by omega), hSw _ _ (by omega)]; exact p2 x hx, by rw [hSw _ _ (by omega)]; exact p3, by rw [hSw _ _ (by omega)]; exact p4⟩
      unfold L_X12_askNow_57
      rw [hCw.2.1, e06, hwt]
      clear hwt
      refine ⟨fun c => ?_, fun c => ?_⟩
      · have q := n2 t ht c
        subst q
        have hw0 : Same (fun a _ => a = 88) (up s5 69 25 0) (up w 69 25 0) := by
          intro a d hd
          by_cases q : a = 69 ∧ d = 25
          · rw [q.1, q.2, up_at, up_at]
          · rw [up_c2 q, up_c2 q, hSw a d hd]
        refine ih2 _ _ ⟨i + 1, rfl, i1, NtM_keep hC50 (fun a b q => hw0 a b (by omega)), fun x hx o q1 q2 => ?_, hS50.trans (hw0.mono (fun a b q => by unfold DScr; omega))⟩ hmu
        rw [htl x hx o q1 q2, tkC_s]
        by_cases z : whm (up N 1 i 20) (sm (up N 1 i 20) 20) x = (o : Int) - 1
        · rw [if_pos ⟨by unfold nT; omega, z⟩, if_pos ⟨hso, z⟩]
        · rw [if_neg (fun y => z y.2), if_neg (fun y => z y.2)]
      · obtain ⟨t8, htt, t1⟩ := n3 t ht c
        obtain ⟨w1, w2⟩ := mwhom_v hNi hCw hPw hI5 (by rw [e06]; exact htt)
        have hr := whm_rng hNi (x := t) (by rw [e06]; exact htt)
        generalize hwv : whm (up N 1 i 20) (sm (up N 1 i 20) 20) t = wv at *
        have ei := ix5m t8 hr
        rw [w1, ei]
        clear ei
        obtain ⟨ov, hov⟩ := Int.eq_ofNat_of_zero_le (show 0 ≤ wv + 1 by omega)
        have eo : (5 * (t : Int) + wv + 1).toNat = 5 * t + ov := by omega
        have ho5 : ov < 5 := by omega
        have hval := htl t t8 ov ho5 htt
        rw [if_neg (fun y => Nat.lt_irrefl t y.1), Int.add_zero] at hval
        have hcr := tkC_rng (N := N) (n := n) (i := i) (t := t) (th := th) (oc := oc) (o := (ov : Int) - 1)
        rw [eo, hval, w32_of (z := tkC N n th oc i t ((ov : Int) - 1) + 1) (by omega) (by omega)]
        refine ⟨w2, ⟨by omega, by omega⟩, ⟨by omega, by omega⟩, fun s6 e6 => ih3 _ _ ⟨t + 1, rfl, t1, by rw [e6]; exact hSw.up rfl, fun x hx o q1 q2 => ?_⟩ hmut⟩
        rw [e6]
        by_cases z : x = t
        · rw [z]
          by_cases z2 : o = ov
          · rw [z2, up_at, if_pos ⟨Nat.lt_succ_self t, by rw [hwv]; omega⟩]
          · rw [up_j (by omega), if_neg (fun y => z2 (by have := y.2; rw [hwv] at this; omega))]
            have := htl t t8 o q1 htt
            rw [if_neg (fun y => Nat.lt_irrefl t y.1)] at this
            exact this
        · rw [up_j (by omega), htl x hx o q1 q2]
          by_cases z2 : x < t ∧ whm (up N 1 i 20) (sm (up N 1 i 20) 20) x = (o : Int) - 1
          · rw [if_pos z2, if_pos ⟨by omega, z2.2⟩]
          · rw [if_neg z2, if_neg (fun y => z2 ⟨by omega, y.2⟩)]
theorem R_ask {s : Sto} (h : Rel s) : P_X11_ask s (fun r s1 => P_X12_ask s1 (fun r2 s2 => r2 = r ∧ Rel s2)) := by
  have hN := tN_ok h
  obtain ⟨g1, g2⟩ := Rel_sg h
  unfold P_X11_ask
  refine T_cask hN tN_NtC g1 (fun t hSt => ?_)
  obtain ⟨hRt, eNt⟩ := Rel_sc h hSt
  unfold P_X12_ask
  refine T_findR hRt eNt (fun u u1 u2 u3 u4 u5 u6 => ?_)
  exact T_mask hN u2 u1.2.2.2.2.2.2.1.1 (SgM_cg g2 (fun a b q => (hSt.trans u6) a b (by unfold DScr; omega))) (fun w w1 w2 w3 => ⟨rfl, (Rel_sc u1 w3).1⟩)
