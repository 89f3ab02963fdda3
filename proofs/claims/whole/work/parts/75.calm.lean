/-! ===== calm ===== -/
def cm (N : Sto) : Nat → Int × Int
  | 0 => (-1, -1)
  | k + 1 => if nbd (up N 9 k (-1)) ≤ (cm N k).2 then cm N k else ((k : Int), nbd (up N 9 k (-1)))
theorem cm_s {N : Sto} {k : Nat} : cm N (k + 1) = if nbd (up N 9 k (-1)) ≤ (cm N k).2 then cm N k else ((k : Int), nbd (up N 9 k (-1))) := rfl
def cmV (N : Sto) (w : Int) : Int := if w = 0 then (cm N 20).1 else (cm N 20).2
def CmC (N : Sto) (k : Nat) (s : Sto) : Prop := s 62 8 = (cm N k).2 ∧ (0 < k → s 62 7 = (cm N k).1)
theorem NOk_9 {N : Sto} {k : Nat} (h : NOk N) : NOk (up N 9 k (-1)) := NOk_up h (by unfold lgl; omega)
theorem cm_0 {N : Sto} {k : Nat} (h : nbd (up N 9 k (-1)) ≤ (cm N k).2) : 0 < k := by
  rcases Nat.eq_zero_or_pos k with q | q
  · subst q
    have h : nbd (up N 9 0 (-1)) ≤ -1 := h
    have := (nbd_0 (up N 9 0 (-1))).1
    omega
  · exact q
theorem T_ccalm {N s : Sto} {Q : Int → Sto → Prop} (hN : NOk N) (hC : NtC N 6 s) (k : ∀ t, CmC N 20 t → Same DScr s t → Q 0 t) : P_X5_seekCalm s Q := by
  unfold P_X5_seekCalm
  refine T_becomes hN hC (fun t hCt hSt => ?_)
  refine T_playAll (Or.inr rfl) (Or.inr rfl) hN hCt (fun s3 hP3 hS3 x5 e5 s6 e6 => ?_)
  have hv : x5 = nbd N := by rw [e5]; exact hP3.2.2.1
  have hC3 := NtC_cg (Or.inr rfl) (Or.inr rfl) hCt hS3
  have hC6 : NtC N 44 s6 := NtC_keep hC3 (fun a b q => by rw [e6, up_c (by omega)])
  have hS6 : Same DScr s s6 := by rw [e6]; exact DScr_tr ((Same_tr hSt).trans (Same_pl hS3)) (by omega)
  refine lp2 (L_X5_seekCalm_37 x5 _) (fun y u => ∃ j : Nat, y = (j : Int) ∧ j ≤ 20 ∧ NtC N 44 u ∧ CmC N j u ∧ Same DScr s u) (fun y _ => (21 - y).toNat) ?_ 0 s6 ⟨0, rfl, by omega, hC6, ⟨by rw [e6, up_at]; rfl, fun q => absurd q (Nat.lt_irrefl 0)⟩, hS6⟩
  intro n y u ⟨j, hy, hj, hCu, hA, hSu⟩ ih
  subst hy
  have hw := ixp (b := j) (by omega)
  have hmu : j < 20 → (21 - ((j + 1 : Nat) : Int)).toNat < (21 - (j : Int)).toNat := fun q => by omega
  unfold L_X5_seekCalm_37
  rw [Int.toNat_natCast, hw, hv]
  clear hw
  refine ⟨fun c => ?_, fun c => ?_⟩
  · have : j = 20 := by omega
    subst this
    exact k u hA hSu
  · have hj20 : j < 20 := by omega
    have hin : inb (j : Int) 20 := ⟨by omega, by omega⟩
    have e15 : u 15 j = N 9 j := (NtC6_sc hC hSu).2.2.2.2.2.2.1 j hj20
    -- one more step, its number known
    have nxt1 : ∀ v m, m = nbd (up N 9 j (-1)) → NtC N 44 v → CmC N j v → Same DScr s v → ((m ≤ v 62 8 → L_X5_seekCalm_37 (nbd N) (fun s7 => Q 0 s7) n ((j + 1 : Nat) : Int) v) ∧ (¬ m ≤ v 62 8 → (∀ s5 : Sto, s5 = up v 62 8 m → (∀ s6 : Sto, s6 = up s5 62 7 (j : Int) → L_X5_seekCalm_37 (nbd N) (fun s7 => Q 0 s7) n ((j + 1 : Nat) : Int) s6)))) := by
      intro v m hm hCv hAv hSv
      rw [hm, hAv.1]
      refine ⟨fun q => ?_, fun q s5 e5 s6 e6 => ?_⟩
      · refine hv ▸ ih _ _ ⟨j + 1, rfl, by omega, hCv, ?_, hSv⟩ (hmu hj20)
        unfold CmC
        rw [cm_s, if_pos q]
        exact ⟨hAv.1, fun _ => hAv.2 (cm_0 q)⟩
      · refine hv ▸ ih _ _ ⟨j + 1, rfl, by omega, NtC_keep hCv (fun a b w => by rw [e6, up_c (by omega), e5, up_c (by omega)]), ?_, by rw [e6, e5]; exact DScr_tr (DScr_tr hSv (by omega)) (by omega)⟩ (hmu hj20)
        unfold CmC
        rw [cm_s, if_neg q]
        refine ⟨?_, fun _ => ?_⟩
        · rw [e6, up_j (by decide), e5, up_at]
        · rw [e6, up_at]
    rw [e15]
    refine ⟨hin, fun c2 => ?_, fun c2 => ⟨hin, fun s8 e8 => ?_⟩⟩
    · refine nxt1 u (nbd N) ?_ hCu hA hSu
      have : up N 9 j (-1) = N := by rw [← c2, up_self]
      rw [this]
    · have hC8 : NtC (up N 9 j (-1)) 44 s8 := by
        have := NtC_up (a := 9) (b := j) (z := -1) hCu (by omega)
        rw [e8]
        exact this
      have hS8 : Same DScr s s8 := by rw [e8]; exact DScr_tr hSu (by omega)
      refine T_playAll (Or.inr rfl) (Or.inr rfl) (NOk_9 hN) hC8 (fun s9 hP9 hS9 x11 e11 => ⟨hin, hin, fun s14 e14 => ?_⟩)
      have hC9 := NtC_cg (Or.inr rfl) (Or.inr rfl) hC8 hS9
      have hS9' := hS8.trans (Same_pl hS9)
      have e15' : s9 15 j = N 9 j := (NtC6_sc hC hS9').2.2.2.2.2.2.1 j hj20
      rw [e15'] at e14
      have hC14 : NtC N 44 s14 := by
        have := NtC_up (a := 9) (b := j) (z := N 9 j) hC9 (by omega)
        rw [up_up, up_self] at this
        rw [e14]
        exact this
      have hA14 : CmC N j s14 := by
        have e62 : ∀ b, s14 62 b = u 62 b := fun b => by rw [e14, up_c (by decide), hS9 _ _ (by unfold DPl; omega), e8, up_c (by decide)]
        unfold CmC
        rw [e62, e62]
        exact hA
      refine nxt1 s14 x11 ?_ hC14 hA14 (by rw [e14]; exact DScr_tr hS9' (by omega))
      rw [e11]
      exact hP9.2.2.1
theorem T_mcalm {N s : Sto} {w : Int} {Q : Int → Sto → Prop} (hN : NOk N) (hC : NtM N s) (h0 : s 69 26 = 0) (k : ∀ t, NtM N t → Same DScr s t → Q (cmV N w) t) : P_X12_calmBy w s Q := by
  have hz : up s 69 26 0 = s := by rw [← h0, up_self]
  unfold P_X12_calmBy
  refine lp4 (L_X12_calmBy_7 w _) (fun b m y u => ∃ j : Nat, y = (j : Int) ∧ j ≤ 20 ∧ b = (cm N j).1 ∧ m = (cm N j).2 ∧ NtM N (up u 69 26 0) ∧ Same DScr s (up u 69 26 0)) (fun _ _ y _ => (21 - y).toNat) ?_ (-1) (-1) 0 s ⟨0, rfl, by omega, rfl, rfl, by rw [hz]; exact hC, by rw [hz]; exact Same.rfl'⟩
  intro n b m y u ⟨j, hy, hj, hb, hm, hCu, hSu⟩ ih
  subst hy
  have hw := ixp (b := j) (by omega)
  unfold L_X12_calmBy_7
  rw [hw]
  clear hw
  refine ⟨fun c s4 e4 => ?_, fun c s2 e2 => ?_⟩
  · have : j = 20 := by omega
    subst this
    have kk := k s4 (by rw [e4]; exact hCu) (by rw [e4]; exact hSu)
    unfold cmV at kk
    rw [hb, hm]
    refine ⟨fun q => ?_, fun q => ?_⟩
    · rw [if_pos q] at kk; exact kk
    · rw [if_neg q] at kk; exact kk
  · have hj20 : j < 20 := by omega
    have hmu : (21 - ((j + 1 : Nat) : Int)).toNat < (21 - (j : Int)).toNat := by omega
    have hC2 := NtM_calm (g := iShl 1 (j : Int)) hCu up_at
    rw [up_up, clN_1 (by omega), ← e2] at hC2
    refine T_lives (NOk_9 hN) hC2 (fun s3 hP3 _ hS3 => ?_)
    have hC3 := NtM_cg hC2 hS3
    refine T_mall (NOk_9 hN) hC3 hP3 (fun x7 e7 x9 e9 => ?_)
    have en : cntB (bnB (sm (up N 9 j (-1)) 20)) (nT (up N 9 j (-1))) = nbd (up N 9 j (-1)) := rfl
    rw [en] at e7 e9
    unfold F_X12_greater at e9
    rw [hm] at e7 e9
    have hS : Same DMl (up u 69 26 0) (up s3 69 26 0) := by
      intro a d hd
      by_cases q : a = 69 ∧ d = 26
      · rw [q.1, q.2, up_at, up_at]
      · rw [up_c2 q, up_c2 q, hS3 a d hd, e2, up_c2 q]
    refine ih _ _ _ _ ⟨j + 1, rfl, hj20, ?_, ?_, NtM_cg hCu hS, hSu.trans (Same_Ml hS)⟩ hmu
    · rw [e7, cm_s]
      by_cases q : nbd (up N 9 j (-1)) ≤ (cm N j).2
      · rw [if_pos q, if_pos q]; exact hb
      · rw [if_neg q, if_neg q]
    · rw [e9, cm_s]
      by_cases q : nbd (up N 9 j (-1)) ≤ (cm N j).2
      · rw [if_pos q, if_pos q]
      · rw [if_neg q, if_neg q]
theorem R_calm {v1 : Int} {s : Sto} (h : Rel s) : P_X11_calm v1 s (fun r s1 => P_X12_calm v1 s1 (fun r2 s2 => r2 = r ∧ Rel s2)) := by
  have hN := tN_ok h
  unfold P_X11_calm
  refine ⟨fun q => ?_, fun q1 => ?_⟩
  · unfold P_X12_calm
    refine T_findR h rfl (fun t t1 t2 t3 t4 t5 t6 => ?_)
    exact ⟨fun _ => ⟨rfl, t1⟩, fun q1 => absurd (yy isTwo_0 q1) (within_0.mp q)⟩
  have c1 := yy within_0 q1
  refine T_ccalm hN tN_NtC (fun t hA hSt => ?_)
  obtain ⟨hRt, eNt⟩ := Rel_sc h hSt
  have good : P_X12_calm v1 t (fun r2 s2 => r2 = cmV (tN s) v1 ∧ Rel s2) := by
    unfold P_X12_calm
    refine T_findR hRt eNt (fun u u1 u2 u3 u4 u5 u6 => ?_)
    exact ⟨fun q => absurd q (nn isTwo_0 c1), fun _ => T_mcalm hN u2 u1.2.2.2.2.2.2.1.2 (fun w w1 w2 => ⟨rfl, (Rel_sc u1 w2).1⟩)⟩
  refine ⟨fun q => ?_, fun q => ?_⟩
  · have : t 62 7 = cmV (tN s) v1 := by unfold cmV; rw [if_pos q]; exact hA.2 (by decide)
    rw [this]; exact good
  · have : t 62 8 = cmV (tN s) v1 := by unfold cmV; rw [if_neg q]; exact hA.1
    rw [this]; exact good
/-! ===== free ===== -/
def frF (N σ : Sto) (w o : Int) (a : Nat) : Bool := decide (whm N σ a = w ∧ ¬ upk N a < o)
def frG (N σ : Sto) (w o : Int) (a b : Nat) : Bool := decide (a < b ∧ b < nT N ∧ whm N σ a = w ∧ whm N σ b = w ∧ ¬ upk N a + upk N b < o)
def frT (N σ : Sto) (w m : Int) : Int × Int × Int := trip (¬ 0 < ups N σ w - m) inferInstance (frF N σ w (ups N σ w - m)) (nT N) (frG N σ w (ups N σ w - m))
theorem wbt_ib {N σ : Sto} {w : Int} {a : Nat} (hN : NOk N) (ha : a < nT N) : ib (wbt N σ w) a = decide (whm N σ a = w) := by
  have n1 := (nT8 hN).1
  unfold wbt
  rw [bitsB_ib (nT N) (by omega) a (by omega), decide_eq_true ha, Bool.true_and]
theorem wbt_t {N σ : Sto} {w : Int} {a : Nat} (hN : NOk N) (ha : a < nT N) : iA (iShr (wbt N σ w) (a : Int)) 1 = 0 ↔ ¬ whm N σ a = w := by
  have n1 := (nT8 hN).1
  rw [ib_t (by omega), wbt_ib hN ha]
  by_cases c : whm N σ a = w
  · rw [decide_eq_true c, if_pos rfl]
    exact ⟨fun q => absurd q (by decide), fun q => absurd c q⟩
  · rw [decide_eq_false c, if_neg Bool.false_ne_true]
    exact ⟨fun _ => c, fun _ => rfl⟩
theorem wbt_in {N σ : Sto} {w : Int} {a : Nat} {s : Sto} (hN : NOk N) (ha : a < nT N) : F_X12_isIn (wbt N σ w) (a : Int) s = 0 ↔ ¬ whm N σ a = w := by
  have n1 := (nT8 hN).1
  rw [isIn_v (by omega), wbt_ib hN ha]
  by_cases c : whm N σ a = w
  · rw [decide_eq_true c, if_pos rfl]
    exact ⟨fun q => absurd q (by decide), fun q => absurd c q⟩
  · rw [decide_eq_false c, if_neg Bool.false_ne_true]
    exact ⟨fun _ => c, fun _ => rfl⟩
theorem T_cfree {N σ s : Sto} {w m : Int} {Q : Int → Sto → Prop} (hN : NOk N) (hC : NtC N 6 s) (hP : Ply N 16 σ s) (hm : 0 ≤ m ∧ m ≤ 99) (k : ∀ t, Few3 (frT N σ w m) t → Same DScr s t → Q 0 t) : P_X5_seekFree 16 w m s Q := by
  obtain ⟨n1, n2, n3⟩ := nT8 hN
  have hur := ups_rng (σ := σ) (w := w) hN (nT N) (Nat.le_refl _)
  unfold P_X5_seekFree
  refine T_cwed hN hC hP (T_cups hN hC hP (fun x5 e5 => ?_))
  have e5' : x5 = ups N σ w - m := by rw [e5]; exact w32_of (by unfold ups; omega) (by unfold ups; omega)
  have hx5 : x5 < 1000 := by rw [e5']; unfold ups; omega
  clear e5
  refine ⟨fun c0 => ?_, fun c0 s15 e15 => ?_⟩
  · have nz : ¬ ¬ 0 < ups N σ w - m := by rw [← e5']; exact fun q => q c0
    refine lp1 (L_X5_seekFree_43 (wbt N σ w) x5 s _ _) (fun y => ∃ a : Nat, y = (a : Int) ∧ a ≤ nT N ∧ (∀ j, j < a → frF N σ w x5 j = false)) (fun y => (9 - y).toNat) ?_ 0 ⟨0, rfl, Nat.zero_le _, fun j q => absurd q (Nat.not_lt_zero j)⟩
    intro n y ⟨a, hy, ha, hf⟩ ih
    subst hy
    have hw := (ix3 (Nat.le_trans ha n1)).2.2.1
    have hmu := mu9 (Nat.le_trans ha n1)
    unfold L_X5_seekFree_43
    have e6 : s 6 6 = N 0 6 := hC.2.1
    rw [e6, hw]
    clear hw
    refine ⟨fun c => ?_, fun c => ?_⟩
    · have q := n2 a ha c
      subst q
      refine lp1 (L_X5_seekFree_100 (wbt N σ w) x5 s _ _) (fun y => ∃ a : Nat, y = (a : Int) ∧ a ≤ nT N ∧ (∀ i j, i < a → frG N σ w x5 i j = false)) (fun y => (9 - y).toNat) ?_ 0 ⟨0, rfl, Nat.zero_le _, fun i j q => absurd q (Nat.not_lt_zero i)⟩
      intro n y ⟨a, hy, ha, hg⟩ ih2
      subst hy
      have hw := (ix3 (Nat.le_trans ha n1)).2.2.1
      have hmu := mu9 (Nat.le_trans ha n1)
      unfold L_X5_seekFree_100
      rw [e6, hw]
      clear hw
      refine ⟨fun c s12 e12 => ?_, fun c x2 ex2 => ?_⟩
      · have q := n2 a ha c
        subst q
        obtain ⟨f1, f2⟩ := few_v e12
        refine k s12 ?_ (Same_63 f2)
        unfold frT
        rw [← e5', trip_n (by rw [e5']; exact nz) hf (fun i j _ _ => ?_)]
        · exact f1
        · cases q : frG N σ w x5 i j with
          | false => rfl
          | true =>
            have := of_decide_eq_true q
            rw [hg i j (by omega)] at q
            exact absurd q Bool.false_ne_true
      · obtain ⟨a8, hat, a1⟩ := n3 a ha c
        subst ex2
        have hua := upk_rng hN hat
        obtain ⟨u1, u2⟩ := cupk_v hN hC hat
        refine lp1 (L_X5_seekFree_118 (wbt N σ w) x5 (a : Int) s _ _) (fun y => ∃ b : Nat, y = (b : Int) ∧ a < b ∧ b ≤ nT N ∧ (∀ j, j < b → frG N σ w x5 a j = false)) (fun y => (9 - y).toNat) ?_ ((a + 1 : Nat) : Int) ⟨a + 1, rfl, by omega, a1, fun j hj => decide_eq_false (fun q => by have := q.1; omega)⟩
        intro m' y ⟨b, hy, hab, hb, hgb⟩ ih3
        subst hy
        have hwb := (ix3 (Nat.le_trans hb n1)).2.2.1
        have hmub := mu9 (Nat.le_trans hb n1)
        have out : (∀ j, frG N σ w x5 a j = false) → L_X5_seekFree_100 (wbt N σ w) x5 s (fun x9 x10 => (∀ s11 : Sto, s11 = S_X2_become 2 x9 x10 s → Q 0 s11)) ((∀ s12 : Sto, s12 = S_X2_become ((-1)) ((-1)) ((-1)) s → Q 0 s12)) n ((a + 1 : Nat) : Int) := fun q => ih2 _ ⟨a + 1, rfl, a1, fun i j hi => by
          by_cases w2 : i = a
          · rw [w2]; exact q j
          · exact hg i j (by omega)⟩ hmu
        unfold L_X5_seekFree_118
        rw [e6, hwb]
        clear hwb
        refine ⟨fun c => ?_, fun c => ⟨fun c2 => ?_, fun c2 => ⟨fun c3 => ?_, fun c3 => ?_⟩⟩⟩
        · have q := n2 b hb c
          subst q
          refine out (fun j => ?_)
          rcases Nat.lt_or_ge j (nT N) with w2 | w2
          · exact hgb j w2
          · exact decide_eq_false (fun q => by have := q.2.1; omega)
        · have := (wbt_t hN (by omega : a < nT N)).mp c2
          exact out (fun j => decide_eq_false (fun q => this q.2.2.1))
        · obtain ⟨b8, hbt, b1⟩ := n3 b hb c
          have := (wbt_t hN (by omega : b < nT N)).mp c3
          refine ih3 _ ⟨b + 1, rfl, by omega, b1, fun j hj => ?_⟩ hmub
          by_cases w2 : j = b
          · rw [w2]; exact decide_eq_false (fun q => this q.2.2.2.1)
          · exact hgb j (by omega)
        · obtain ⟨b8, hbt, b1⟩ := n3 b hb c
          have hub := upk_rng hN hbt
          obtain ⟨u3, u4⟩ := cupk_v hN hC hbt
          have wa := yy (wbt_t hN (by omega : a < nT N)) c2
          have wb := yy (wbt_t hN (by omega : b < nT N)) c3
          rw [u1, u3, w32_of (z := upk N a + upk N b) (by omega) (by omega)]
          refine ⟨u2, u4, fun c4 => ?_, fun c4 s11 e11 => ?_⟩
          · refine ih3 _ ⟨b + 1, rfl, by omega, b1, fun j hj => ?_⟩ hmub
            by_cases w2 : j = b
            · rw [w2]; exact decide_eq_false (fun q => q.2.2.2.2 c4)
            · exact hgb j (by omega)
          · obtain ⟨f1, f2⟩ := few_v e11
            refine k s11 ?_ (Same_63 f2)
            unfold frT
            rw [← e5', trip_2 (by rw [e5']; exact nz) hf a8 b8 (decide_eq_true ⟨hab, by omega, wa, wb, c4⟩) (fun i j _ _ q => ?_)]
            · exact f1
            · rcases q with q | ⟨q1, q2⟩
              · exact hg i j q
              · rw [q1]; exact hgb j q2
    · obtain ⟨a8, hat, a1⟩ := n3 a ha c
      obtain ⟨u1, u2⟩ := cupk_v hN hC hat
      have nx : frF N σ w x5 a = false → L_X5_seekFree_43 (wbt N σ w) x5 s (fun x7 => (∀ s8 : Sto, s8 = S_X2_become 1 x7 ((-1)) s → Q 0 s8)) ((∃ n13, L_X5_seekFree_100 (wbt N σ w) x5 s (fun x9 x10 => (∀ s11 : Sto, s11 = S_X2_become 2 x9 x10 s → Q 0 s11)) ((∀ s12 : Sto, s12 = S_X2_become ((-1)) ((-1)) ((-1)) s → Q 0 s12)) n13 0)) n ((a + 1 : Nat) : Int) := fun q => ih _ ⟨a + 1, rfl, a1, fun j hj => by
        by_cases w2 : j = a
        · rw [w2]; exact q
        · exact hf j (by omega)⟩ hmu
      refine ⟨fun c2 => ?_, fun c2 => ?_⟩
      · have := (wbt_t hN (by omega : a < nT N)).mp c2
        exact nx (decide_eq_false (fun q => this q.1))
      · have wa := yy (wbt_t hN (by omega : a < nT N)) c2
        rw [u1]
        refine ⟨u2, fun c3 => nx (decide_eq_false (fun q => q.2 c3)), fun c3 s8 e8 => ?_⟩
        obtain ⟨f1, f2⟩ := few_v e8
        refine k s8 ?_ (Same_63 f2)
        unfold frT
        rw [← e5', trip_1 (by rw [e5']; exact nz) (by omega : a < nT N) (decide_eq_true ⟨wa, c3⟩) hf]
        exact f1
  · obtain ⟨f1, f2⟩ := few_v e15
    refine k s15 ?_ (Same_63 f2)
    unfold frT
    rw [← e5', trip_0 c0]
    exact f1
theorem cost_v {N σ s : Sto} {w : Int} {a : Nat} (hN : NOk N) (hC : NtM N s) (hP : PlM N σ s) (hI : ∀ x : Nat, (x : Int) < N 0 6 → σ 5 x = -1 ∨ (0 ≤ σ 5 x ∧ σ 5 x < N 0 0)) (ha : (a : Int) < N 0 6) (hw : whm N σ a = w) : F_X12_costOf (a : Int) w s = upk N a ∧ O_X12_costOf (a : Int) w s := by
  obtain ⟨m1, m2⟩ := mwhom_v hN hC hP hI ha
  obtain ⟨u1, u2⟩ := mupk_v hN hC ha
  unfold F_X12_costOf O_X12_costOf
  rw [m1, if_pos hw, u1]
  exact ⟨rfl, m2, fun _ => ⟨u2, trivial⟩, fun _ => trivial⟩
theorem pick_n {p : Int × Int × Int} {v : Int} {s : Sto} {Q : Int → Sto → Prop} (hp : p = (-1, -1, -1)) (h : Q (pick3 p v) s) : Q (-1) s := by
  unfold pick3 at h
  rw [hp] at h
  have e2 : (if v = -1 then ((-1, -1, -1) : Int × Int × Int).1 else if v = 0 then ((-1, -1, -1) : Int × Int × Int).2.1 else ((-1, -1, -1) : Int × Int × Int).2.2) = -1 := by
    by_cases q1 : v = -1
    · rw [if_pos q1]
    · rw [if_neg q1]
      by_cases q2 : v = 0
      · rw [if_pos q2]
      · rw [if_neg q2]
  rw [e2] at h
  exact h
theorem T_mfree {N s : Sto} {w m v : Int} {Q : Int → Sto → Prop} (hN : NOk N) (hC : NtM N s) (hm : 0 ≤ m ∧ m ≤ 99) (k : ∀ t, NtM N t → PlM N (sm N 20) t → Same DMl s t → Q (pick3 (frT N (sm N 20) w m) v) t) : P_X12_freeOf w m v s Q := by
  obtain ⟨n1, n2, n3⟩ := nT8 hN
  have hI := (sm_inv hN 20 (Nat.le_refl 20)).1.2
  have hur := ups_rng (σ := sm N 20) (w := w) hN (nT N) (Nat.le_refl _)
  unfold P_X12_freeOf
  refine T_lives hN hC (fun s1 hP1 _ hS1 => ?_)
  have hC1 := NtM_cg hC hS1
  have kk := k s1 hC1 hP1 hS1
  generalize hσ : sm N 20 = σ at *
  refine T_mwed hN hC1 hP1 hI (fun x5 e5 => T_mwed hN hC1 hP1 hI ?_)
  rw [if_neg (by decide)] at e5
  rw [if_pos rfl]
  have e5' : x5 = ups N σ w - m := by rw [e5]; exact w32_of (by unfold ups; omega) (by unfold ups; omega)
  clear e5
  refine ⟨fun c0 => ?_, fun c0 => ?_⟩
  · have nz : ¬ ¬ 0 < ups N σ w - m := by rw [← e5']; exact fun q => q c0
    refine lp1 (L_X12_freeOf_41 w v x5 (wbt N σ w) s1 _ _) (fun y => ∃ a : Nat, y = (a : Int) ∧ a ≤ nT N ∧ (∀ j, j < a → frF N σ w x5 j = false)) (fun y => (9 - y).toNat) ?_ 0 ⟨0, rfl, Nat.zero_le _, fun j q => absurd q (Nat.not_lt_zero j)⟩
    intro n y ⟨a, hy, ha, hf⟩ ih
    subst hy
    have hw := (ix3 (Nat.le_trans ha n1)).2.2.1
    have hmu := mu9 (Nat.le_trans ha n1)
    unfold L_X12_freeOf_41
    rw [hC1.2.1, hw]
    clear hw
    refine ⟨fun c => ?_, fun c => ?_⟩
    · have q := n2 a ha c
      subst q
      refine lp1 (L_X12_freeOf_101 w v x5 (wbt N σ w) s1 _ _) (fun y => ∃ a : Nat, y = (a : Int) ∧ a ≤ nT N ∧ (∀ i j, i < a → frG N σ w x5 i j = false)) (fun y => (9 - y).toNat) ?_ 0 ⟨0, rfl, Nat.zero_le _, fun i j q => absurd q (Nat.not_lt_zero i)⟩
      intro n y ⟨a, hy, ha, hg⟩ ih2
      subst hy
      have hw := (ix3 (Nat.le_trans ha n1)).2.2.1
      have hmu := mu9 (Nat.le_trans ha n1)
      unfold L_X12_freeOf_101
      rw [hC1.2.1, hw]
      clear hw
      refine ⟨fun c => ?_, fun c x2 ex2 => ?_⟩
      · have q := n2 a ha c
        subst q
        refine pick_n ?_ kk
        unfold frT
        rw [← e5']
        refine trip_n (by rw [e5']; exact nz) hf (fun i j _ _ => ?_)
        cases q : frG N σ w x5 i j with
        | false => rfl
        | true =>
          have := of_decide_eq_true q
          rw [hg i j (by omega)] at q
          exact absurd q Bool.false_ne_true
      · obtain ⟨a8, hat, a1⟩ := n3 a ha c
        subst ex2
        have hua := upk_rng hN hat
        refine lp1 (L_X12_freeOf_116 w v x5 (wbt N σ w) (a : Int) s1 _ _) (fun y => ∃ b : Nat, y = (b : Int) ∧ a < b ∧ b ≤ nT N ∧ (∀ j, j < b → frG N σ w x5 a j = false)) (fun y => (9 - y).toNat) ?_ ((a + 1 : Nat) : Int) ⟨a + 1, rfl, by omega, a1, fun j hj => decide_eq_false (fun q => by have := q.1; omega)⟩
        intro m' y ⟨b, hy, hab, hb, hgb⟩ ih3
        subst hy
        have hwb := (ix3 (Nat.le_trans hb n1)).2.2.1
        have hmub := mu9 (Nat.le_trans hb n1)
        unfold L_X12_freeOf_116
        rw [hC1.2.1, hwb]
        clear hwb
        refine ⟨fun c => ?_, fun c => ?_⟩
        · have q := n2 b hb c
          subst q
          refine ih2 _ ⟨a + 1, rfl, a1, fun i j hi => ?_⟩ hmu
          by_cases w2 : i = a
          · rw [w2]
            rcases Nat.lt_or_ge j (nT N) with w3 | w3
            · exact hgb j w3
            · exact decide_eq_false (fun q => by have := q.2.1; omega)
          · exact hg i j (by omega)
        · obtain ⟨b8, hbt, b1⟩ := n3 b hb c
          have hub := upk_rng hN hbt
          have nx : frG N σ w x5 a b = false → ∃ b' : Nat, ((b + 1 : Nat) : Int) = (b' : Int) ∧ a < b' ∧ b' ≤ nT N ∧ (∀ j, j < b' → frG N σ w x5 a j = false) := fun q => ⟨b + 1, rfl, by omega, b1, fun j hj => by
            by_cases w2 : j = b
            · rw [w2]; exact q
            · exact hgb j (by omega)⟩
          refine ⟨fun c2 => ih3 _ (nx (decide_eq_false (fun q => (wbt_in hN (by omega : a < nT N)).mp c2 q.2.2.1))) hmub, fun c2 => ⟨fun c3 => ih3 _ (nx (decide_eq_false (fun q => (wbt_in hN (by omega : b < nT N)).mp c3 q.2.2.2.1))) hmub, fun c3 => ?_⟩⟩
          have wa := yy (wbt_in hN (by omega : a < nT N)) c2
          have wb := yy (wbt_in hN (by omega : b < nT N)) c3
          obtain ⟨u1, u2⟩ := cost_v hN hC1 hP1 hI hat wa
          obtain ⟨u3, u4⟩ := cost_v hN hC1 hP1 hI hbt wb
          rw [u1, u3, w32_of (z := upk N a + upk N b) (by omega) (by omega)]
          refine ⟨u2, u4, fun c4 => ih3 _ (nx (decide_eq_false (fun q => q.2.2.2.2 c4))) hmub, fun c4 => ?_⟩
          refine pick_m (p := frT N σ w m) ?_ kk
          unfold frT
          rw [← e5']
          refine trip_2 (by rw [e5']; exact nz) hf a8 b8 (decide_eq_true ⟨hab, by omega, wa, wb, c4⟩) (fun i j _ _ q => ?_)
          rcases q with q | ⟨q1, q2⟩
          · exact hg i j q
          · rw [q1]; exact hgb j q2
    · obtain ⟨a8, hat, a1⟩ := n3 a ha c
      have nx : frF N σ w x5 a = false → ∃ b' : Nat, ((a + 1 : Nat) : Int) = (b' : Int) ∧ b' ≤ nT N ∧ (∀ j, j < b' → frF N σ w x5 j = false) := fun q => ⟨a + 1, rfl, a1, fun j hj => by
        by_cases w2 : j = a
        · rw [w2]; exact q
        · exact hf j (by omega)⟩
      refine ⟨fun c2 => ih _ (nx (decide_eq_false (fun q => (wbt_in hN (by omega : a < nT N)).mp c2 q.1))) hmu, fun c2 => ?_⟩
      have wa := yy (wbt_in hN (by omega : a < nT N)) c2
      obtain ⟨u1, u2⟩ := cost_v hN hC1 hP1 hI hat wa
      rw [u1]
      refine ⟨u2, fun c3 => ih _ (nx (decide_eq_false (fun q => q.2 c3))) hmu, fun c3 => ?_⟩
      refine pick_m (p := frT N σ w m) ?_ kk
      unfold frT
      rw [← e5']
      exact trip_1 (by rw [e5']; exact nz) (by omega : a < nT N) (decide_eq_true ⟨wa, c3⟩) hf
  · obtain ⟨p1, p2⟩ := pick_m (p := frT N σ w m) (a := 0) (b := -1) (c := -1) (by unfold frT; rw [← e5']; exact trip_0 c0) kk
    exact ⟨p1, fun q => by
      by_cases q2 : v = 0
      · exact (p2 q).1 q2
      · exact (p2 q).2 q2⟩
theorem R_free {v1 v2 v3 : Int} {s : Sto} (h : Rel s) : P_X11_free v1 v2 v3 s (fun r s1 => P_X12_free v1 v2 v3 s1 (fun r2 s2 => r2 = r ∧ Rel s2)) := by
  have hN := tN_ok h
  have bad : ¬ ((0 ≤ v1 ∧ v1 ≤ 3) ∧ (0 ≤ v2 ∧ v2 ≤ 99) ∧ (-1 ≤ v3 ∧ v3 ≤ 1)) → P_X12_free v1 v2 v3 s (fun r2 s2 => r2 = -2 ∧ Rel s2) := by
    intro c
    unfold P_X12_free
    refine T_findR h rfl (fun t t1 t2 t3 t4 t5 t6 => ?_)
    exact ⟨fun _ => ⟨rfl, t1⟩, fun q1 => ⟨fun _ => ⟨rfl, t1⟩, fun q2 => ⟨fun _ => ⟨rfl, t1⟩, fun q3 => absurd ⟨yy in_0 q1, yy in_0 q2, yy in_0 q3⟩ c⟩⟩⟩
  unfold P_X11_free
  refine ⟨fun q => bad (fun w => within_0.mp q w.1), fun q1 => ⟨fun q => bad (fun w => within_0.mp q w.2.1), fun q2 => ⟨fun q => bad (fun w => within_0.mp q w.2.2), fun q3 => ?_⟩⟩⟩
  have c1 := yy within_0 q1
  have c2 := yy within_0 q2
  have c3 := yy within_0 q3
  refine T_playTold h (fun t hRt hPt eNt hSt => ?_)
  refine T_cfree hN (NtC_of eNt) hPt.1 c2 (fun u hF hSu => ?_)
  obtain ⟨hRu, eNu⟩ := Rel_sc hRt hSu
  rw [few_pick hF]
  unfold P_X12_free
  refine T_findR hRu (eNu.trans eNt) (fun v w1 w2 w3 w4 w5 w6 => ?_)
  exact ⟨fun q => absurd q (nn in_0 c1), fun _ => ⟨fun q => absurd q (nn in_0 c2), fun _ => ⟨fun q => absurd q (nn in_0 c3), fun _ => T_mfree hN w2 c2 (fun x x1 x2 x3 => ⟨rfl, (Rel_sc w1 (Same_Ml x3)).1⟩)⟩⟩⟩
