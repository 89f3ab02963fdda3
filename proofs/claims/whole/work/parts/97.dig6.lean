theorem T_mrd {s : Sto} {K : Int → Sto → Prop} {x : Int} (h : Rel s) (k : ∀ t, NtM (tN s) t → Same DScr s t → K (mx (mx (mx x (s 2 0)) (s 2 1)) (s 2 2)) t) : ∃ n, L_X12_digest_33 K n x 0 s := by
  have w1 : w32 (0 + 1) = 1 := by decide
  have w2 : w32 (1 + 1) = 2 := by decide
  have w3 : w32 (2 + 1) = 3 := by decide
  refine ⟨4, ?_⟩
  show L_X12_digest_33 K (3 + 1) x 0 s
  unfold L_X12_digest_33
  refine ⟨fun q => absurd q (by decide), fun _ => ?_⟩
  unfold P_X12_readsText
  refine ⟨fun _ => ?_, fun q => absurd rfl q⟩
  rw [w1]
  refine T_rV h (fun t1 v1 S1 x4 e4 => ?_)
  have h1 := Rel_cg h (Same_RV S1)
  show L_X12_digest_33 K (2 + 1) x4 1 t1
  unfold L_X12_digest_33
  refine ⟨fun q => absurd q (by decide), fun _ => ?_⟩
  unfold P_X12_readsText
  refine ⟨fun q => absurd q (by decide), fun _ => ⟨fun _ => ?_, fun q => absurd rfl q⟩⟩
  rw [w2]
  refine T_rT h1 (fun t2 a2 b2 S2 x5 e5 => ?_)
  have h2 := Rel_cg h1 (Same_RT S2)
  show L_X12_digest_33 K (1 + 1) x5 2 t2
  unfold L_X12_digest_33
  refine ⟨fun q => absurd q (by decide), fun _ => ?_⟩
  unfold P_X12_readsText
  refine ⟨fun q => absurd q (by decide), fun _ => ⟨fun q => absurd q (by decide), fun _ => ?_⟩⟩
  rw [w3]
  refine T_rW h2 (fun t3 b3 S3 x6 e6 => ?_)
  show L_X12_digest_33 K (0 + 1) x6 3 t3
  have hS : Same DScr s t3 := ((Same_RV S1).trans (Same_RT S2)).trans (Same_RW S3)
  have e : ∀ a b, a < 44 ∨ (70 ≤ a ∧ a ≤ 75) ∨ a = 79 ∨ a = 87 → t3 a b = s a b := fun a b q => hS a b (by unfold DScr; omega)
  have f : ∀ b, b = 4 ∨ b = 13 ∨ b = 14 ∨ b = 25 ∨ b = 26 ∨ b = 27 → t3 69 b = s 69 b := fun b q => hS 69 b (by unfold DScr; omega)
  have g1 : ∀ a b, a < 44 → t1 a b = s a b := fun a b q => S1 a b (by unfold DRV; omega)
  have g2 : ∀ a b, a < 44 → t2 a b = s a b := fun a b q => (S2 a b (by unfold DRT; omega)).trans (g1 a b q)
  unfold L_X12_digest_33
  refine ⟨fun _ => ?_, fun q => absurd (by decide) q⟩
  rw [e6, e5, e4, g2 2 2 (by omega), g1 2 1 (by omega)]
  refine k t3 ?_ hS
  have hR := h.2.1
  have hW := h.2.2.1
  refine ⟨?_, ?_, ?_, ?_, fun r hr => ?_, fun x hx => ?_, fun k hk => ?_, fun c hc => ?_, fun c w hc hw => ?_⟩
  · rw [f 14 (by omega)]; exact hR.1.symm
  · rw [S3 69 10 (by unfold DRW; omega), a2]; exact g1 6 6 (by omega)
  · rw [f 13 (by omega)]; exact hW.1.symm
  · rw [S3 69 7 (by unfold DRW; omega), S2 69 7 (by unfold DRT; omega)]; exact v1.1
  · have hr : (r : Int) < s 6 0 := hr
    rw [hR.1] at hr
    obtain ⟨⟨e1, e2, e3, e4, e5⟩, -⟩ := hR.2.2 r hr
    rw [f 25 (by omega), h.2.2.2.2.2.2.1.1, ib_0, e 79 _ (by omega), e 79 _ (by omega), e 79 _ (by omega), e 79 _ (by omega), e 79 _ (by omega)]
    exact ⟨fun q => absurd q (by decide), fun _ => e1.symm, e2.symm, e3.symm, e4.symm, e5.symm⟩
  · have hx : (x : Int) < s 6 6 := hx
    have := b2 x (by rw [g1 6 6 (by omega)]; exact hx)
    rw [S3 77 _ (by unfold DRW; omega), S3 77 _ (by unfold DRW; omega), S3 77 _ (by unfold DRW; omega), this.1, this.2.1, this.2.2, g1 12 x (by omega), g1 13 x (by omega), g1 14 x (by omega)]
    exact ⟨rfl, rfl, rfl⟩
  · rw [f 26 (by omega), h.2.2.2.2.2.2.1.2, ib_0, if_neg (by decide), b3 k hk, g2 15 k (by omega)]
    rfl
  · have hc : (c : Int) < s 3 0 := hc
    rw [S3 76 _ (by unfold DRW; omega), S2 76 _ (by unfold DRT; omega), v1.2.1 c hc]
    show 1 - s 4 c = 1 - (if (c : Int) < s 3 0 then s 4 c else 0)
    rw [if_pos hc]
  · obtain ⟨k1, k2⟩ := v1.2.2 c w hc hw
    have e7 : t3 69 7 = t1 69 7 := by rw [S3 69 7 (by unfold DRW; omega), S2 69 7 (by unfold DRT; omega)]
    have e8 : t3 69 8 = t1 69 8 := by rw [S3 69 8 (by unfold DRW; omega), S2 69 8 (by unfold DRT; omega)]
    have e76 : t3 76 = t1 76 := funext (fun b => by rw [S3 76 b (by unfold DRW; omega), S2 76 b (by unfold DRT; omega)])
    obtain ⟨m1, m2⟩ := beside_cg (c := (c : Int)) (w := (w : Int)) e7 e8 e76
    exact ⟨by rw [m1]; exact k1, m2 k2⟩
