/-! ===== the calls wed, missed, richest, lonely ===== -/
theorem NtC_of {N s : Sto} (e : tN s = N) : NtC N 6 s := by
  have := tN_NtC (s := s)
  rw [e] at this
  exact this
theorem T_Xmissed {N s : Sto} {Q : Int → Sto → Prop} (h : Rel s) (eN : tN s = N) (k : ∀ t, Rel t → Pld N t → tN t = N → Same DPt s t → Q (msb N (sm N 20)) t) : P_X11_missed s Q := by
  subst eN
  unfold P_X11_missed
  exact T_playTold h (fun t h1 h2 h3 h4 => T_cmissed (tN_ok h) (NtC_of h3) h2.1 (k t h1 h2 h3 h4))
theorem T_Xrichest {N s : Sto} {Q : Int → Sto → Prop} (h : Rel s) (eN : tN s = N) (k : ∀ t, Rel t → Pld N t → tN t = N → Same DPt s t → Q (ric N (sm N 20) 4).1 t) : P_X11_richest s Q := by
  subst eN
  unfold P_X11_richest
  exact T_playTold h (fun t h1 h2 h3 h4 => T_crichest (tN_ok h) (NtC_of h3) h2.1 (k t h1 h2 h3 h4))
theorem T_Xlonely {N s : Sto} {Q : Int → Sto → Prop} (h : Rel s) (eN : tN s = N) (k : ∀ t, Rel t → Pld N t → tN t = N → Same DPt s t → Q (lon (sm N 20) (nT N)).1 t) : P_X11_lonely s Q := by
  subst eN
  unfold P_X11_lonely
  exact T_playTold h (fun t h1 h2 h3 h4 => T_clonely (tN_ok h) (NtC_of h3) h2.1 (k t h1 h2 h3 h4))
theorem R_missed {s : Sto} (h : Rel s) : P_X11_missed s (fun r s1 => P_X12_missed s1 (fun r2 s2 => r2 = r ∧ Rel s2)) :=
  T_Xmissed h rfl (fun t h1 _ h3 _ => by
    unfold P_X12_missed
    exact T_findR h1 h3 (fun u u1 u2 u3 _ _ _ => T_mmissed (tN_ok h) u2 u3 ⟨rfl, u1⟩))
theorem R_richest {s : Sto} (h : Rel s) : P_X11_richest s (fun r s1 => P_X12_richest s1 (fun r2 s2 => r2 = r ∧ Rel s2)) :=
  T_Xrichest h rfl (fun t h1 _ h3 _ => by
    unfold P_X12_richest
    exact T_findR h1 h3 (fun u u1 u2 u3 _ _ _ => T_mrichest (tN_ok h) u2 u3 (sm_inv (tN_ok h) 20 (Nat.le_refl 20)).1.2 ⟨rfl, u1⟩))
theorem R_lonely {s : Sto} (h : Rel s) : P_X11_lonely s (fun r s1 => P_X12_lonely s1 (fun r2 s2 => r2 = r ∧ Rel s2)) :=
  T_Xlonely h rfl (fun t h1 _ h3 _ => by
    unfold P_X12_lonely
    exact T_findR h1 h3 (fun u u1 u2 u3 _ _ _ => T_mlonely (tN_ok h) u2 u3 ⟨rfl, u1⟩))
theorem R_wed {v1 v2 : Int} {s : Sto} (h : Rel s) : P_X11_wed v1 v2 s (fun r s1 => P_X12_wed v1 v2 s1 (fun r2 s2 => r2 = r ∧ Rel s2)) := by
  have hN := tN_ok h
  have hI := (sm_inv hN 20 (Nat.le_refl 20)).1.2
  have bad : ¬ ((0 ≤ v1 ∧ v1 ≤ 3) ∧ (0 ≤ v2 ∧ v2 ≤ 1)) → P_X12_wed v1 v2 s (fun r2 s2 => r2 = -2 ∧ Rel s2) := by
    intro c
    unfold P_X12_wed
    refine T_findR h rfl (fun t t1 t2 t3 t4 t5 t6 => ?_)
    exact ⟨fun _ => ⟨rfl, t1⟩, fun q1 => ⟨fun _ => ⟨rfl, t1⟩, fun q2 => absurd ⟨yy in_0 q1, yy isTwo_0 q2⟩ c⟩⟩
  unfold P_X11_wed
  refine ⟨fun q => bad (fun w => within_0.mp q w.1), fun q1 => ⟨fun q => bad (fun w => within_0.mp q w.2), fun q2 => ?_⟩⟩
  have c1 := yy within_0 q1
  have c2 := yy within_0 q2
  refine T_playTold h (fun t hRt hPt eNt hSt => ?_)
  have good : P_X12_wed v1 v2 t (fun r2 s2 => r2 = (if v2 = 0 then wbt (tN s) (sm (tN s) 20) v1 else ups (tN s) (sm (tN s) 20) v1) ∧ Rel s2) := by
    unfold P_X12_wed
    refine T_findR hRt eNt (fun u u1 u2 u3 u4 u5 u6 => ?_)
    exact ⟨fun q => absurd q (nn in_0 c1), fun _ => ⟨fun q => absurd q (nn isTwo_0 c2), fun _ => T_mwed hN u2 u3 hI ⟨rfl, u1⟩⟩⟩
  refine ⟨fun q => T_cwed hN (NtC_of eNt) hPt.1 ?_, fun q => T_cups hN (NtC_of eNt) hPt.1 ?_⟩
  · rw [if_pos q] at good; exact good
  · rw [if_neg q] at good; exact good
