/-! ===== calls that change what is told: both sides stay related ===== -/
theorem Rel_sh {s t : Sto} (h : Rel s) (h1 : RSh t) (hS : Same DSh s t) : Rel t := by
  obtain ⟨-, h2, h3, h4, h5, h6, h7, h8⟩ := h
  have e : ∀ a b, ¬ DSh a b → t a b = s a b := hS
  refine ⟨h1, h2.cg (fun a b q q2 => e a b (by unfold DRg at q; unfold DSh; omega)), RWd_cg h3 (e _ _ (by unfold DSh; omega)) (e _ _ (by unfold DSh; omega)), RSt_cg h4 (fun a b q => e a b (by unfold DSt at q; unfold DSh; omega)), RTx_cg h5 (fun a b q => e _ _ (by unfold DSh; omega)), RDv_cg h6 (fun a b q q2 => e _ _ (by unfold DTx at q; unfold DSh; omega)), ⟨by rw [e _ _ (by unfold DSh; omega)]; exact h7.1, by rw [e _ _ (by unfold DSh; omega)]; exact h7.2⟩, fun q => ?_⟩
  rw [tN_cg (s := s) (t := t) (fun a b q1 q2 => e a b (by unfold DSh; omega))]
  rw [e 0 12 (by unfold DSh; omega)] at q
  exact Pld_cg (h8 q) (fun a b q1 q2 => e a b (by unfold DSh; omega))
theorem Rel_st {s t : Sto} (h : Rel s) (h4 : RSt t) (hS : Same DSt s t) : Rel t := by
  obtain ⟨h1, h2, h3, -, h5, h6, h7, h8⟩ := h
  have e : ∀ a b, ¬ DSt a b → t a b = s a b := hS
  refine ⟨RSh_cg h1 (fun a b q => e a b (by unfold DSt; omega)), h2.cg (fun a b q q2 => e a b (by unfold DRg at q; unfold DSt; omega)), RWd_cg h3 (e _ _ (by unfold DSt; omega)) (e _ _ (by unfold DSt; omega)), h4, RTx_cg h5 (fun a b q => e _ _ (by unfold DSt; omega)), RDv_cg h6 (fun a b q q2 => e _ _ (by unfold DTx at q; unfold DSt; omega)), ⟨by rw [e _ _ (by unfold DSt; omega)]; exact h7.1, by rw [e _ _ (by unfold DSt; omega)]; exact h7.2⟩, fun q => ?_⟩
  rw [tN_cg (s := s) (t := t) (fun a b q1 q2 => e a b (by unfold DSt; omega))]
  rw [e 0 12 (by unfold DSt; omega)] at q
  exact Pld_cg (h8 q) (fun a b q1 q2 => e a b (by unfold DSt; omega))
theorem Rel_rg {s t : Sto} (h : Rel s) (h2 : RRg t) (hS : Same DRg s t) (hp : t = s ∨ t 0 12 = 0) : Rel t := by
  rcases hp with rfl | hp
  · exact h
  obtain ⟨h1, -, h3, h4, h5, h6, h7, h8⟩ := h
  have e : ∀ a b, ¬ DRg a b → t a b = s a b := hS
  exact ⟨RSh_cg h1 (fun a b q => e a b (by unfold DRg; omega)), h2, RWd_cg h3 (e _ _ (by unfold DRg; omega)) (e _ _ (by unfold DRg; omega)), RSt_cg h4 (fun a b q => e a b (by unfold DSt at q; unfold DRg; omega)), RTx_cg h5 (fun a b q => e _ _ (by unfold DRg; omega)), RDv_cg h6 (fun a b q q2 => e _ _ (by unfold DTx at q; unfold DRg; omega)), ⟨by rw [e _ _ (by unfold DRg; omega)]; exact h7.1, by rw [e _ _ (by unfold DRg; omega)]; exact h7.2⟩, fun q => absurd hp q⟩
theorem Rel_wd {s t : Sto} (h : Rel s) (h3 : RWd t) (hS : Same (fun a b => (a = 6 ∧ b = 11) ∨ (a = 0 ∧ b = 12) ∨ (a = 69 ∧ b = 13)) s t) (hp : t = s ∨ t 0 12 = 0) : Rel t := by
  rcases hp with rfl | hp
  · exact h
  obtain ⟨h1, h2, -, h4, h5, h6, h7, h8⟩ := h
  have e : ∀ a b, ¬ ((a = 6 ∧ b = 11) ∨ (a = 0 ∧ b = 12) ∨ (a = 69 ∧ b = 13)) → t a b = s a b := hS
  exact ⟨RSh_cg h1 (fun a b q => e a b (by omega)), h2.cg (fun a b q q2 => e a b (by unfold DRg at q; omega)), h3, RSt_cg h4 (fun a b q => e a b (by unfold DSt at q; omega)), RTx_cg h5 (fun a b q => e _ _ (by omega)), RDv_cg h6 (fun a b q q2 => e _ _ (by unfold DTx at q; omega)), ⟨by rw [e _ _ (by omega)]; exact h7.1, by rw [e _ _ (by omega)]; exact h7.2⟩, fun q => absurd hp q⟩
theorem Rel_tx {s t : Sto} (h : Rel s) (h5 : RTx t) (h6 : RDv t) (hS : Same DTx s t) (hp : t = s ∨ t 0 12 = 0) : Rel t := by
  rcases hp with rfl | hp
  · exact h
  obtain ⟨h1, h2, h3, h4, -, -, h7, h8⟩ := h
  have e : ∀ a b, ¬ DTx a b → t a b = s a b := hS
  exact ⟨RSh_cg h1 (fun a b q => e a b (by unfold DTx; omega)), h2.cg (fun a b q q2 => e a b (by unfold DRg at q; unfold DTx; omega)), RWd_cg h3 (e _ _ (by unfold DTx; omega)) (e _ _ (by unfold DTx; omega)), RSt_cg h4 (fun a b q => e a b (by unfold DSt at q; unfold DTx; omega)), h5, h6, ⟨by rw [e _ _ (by unfold DTx; omega)]; exact h7.1, by rw [e _ _ (by unfold DTx; omega)]; exact h7.2⟩, fun q => absurd hp q⟩
theorem Rel_rd {s t : Sto} (h : Rel s) (h1 : RSh t) (h2 : RRg t) (hS : Same (fun a b => DRg a b ∨ (a = 0 ∧ b = 11) ∨ (a = 69 ∧ b = 4)) s t) (hp : Same (fun a b => (a = 0 ∧ b = 11) ∨ (a = 69 ∧ b = 4)) s t ∨ t 0 12 = 0) : Rel t := by
  rcases hp with hp | hp
  · exact Rel_sh h h1 (hp.mono (fun a b q => by unfold DSh; omega))
  obtain ⟨-, -, h3, h4, h5, h6, h7, h8⟩ := h
  have e : ∀ a b, ¬ DRg a b → ¬ (a = 0 ∧ b = 11) → ¬ (a = 69 ∧ b = 4) → t a b = s a b := fun a b q1 q2 q3 => hS a b (fun w => w.elim q1 (fun w => w.elim q2 q3))
  exact ⟨h1, h2, RWd_cg h3 (e _ _ (by unfold DRg; omega) (by omega) (by omega)) (e _ _ (by unfold DRg; omega) (by omega) (by omega)), RSt_cg h4 (fun a b q => e a b (by unfold DSt at q; unfold DRg; omega) (by unfold DSt at q; omega) (by unfold DSt at q; omega)), RTx_cg h5 (fun a b q => e _ _ (by unfold DRg; omega) (by omega) (by omega)), RDv_cg h6 (fun a b q q2 => e _ _ (by unfold DTx at q; unfold DRg; omega) (by unfold DTx at q; omega) (by unfold DTx at q; omega)), ⟨by rw [e _ _ (by unfold DRg; omega) (by omega) (by omega)]; exact h7.1, by rw [e _ _ (by unfold DRg; omega) (by omega) (by omega)]; exact h7.2⟩, fun q => absurd hp q⟩
/-! ===== the calls, in the law's form ===== -/
theorem R_sheet {v1 v2 v3 : Int} {s : Sto} (h : Rel s) : ∃ G : Sto → Prop, P_X11_sheet v1 v2 v3 s (fun r s1 => P_X12_sheet v1 v2 v3 s1 (fun r2 s2 => r2 = r ∧ G s2)) ∧ ∀ t, G t → Rel t :=
  ⟨fun t => RSh t ∧ Same DSh s t, op_sheet h.1, fun _ q => Rel_sh h q.1 q.2⟩
theorem R_lose {v1 : Int} {s : Sto} (h : Rel s) : ∃ G : Sto → Prop, P_X11_lose v1 s (fun r s1 => O_X12_lose v1 s1 ∧ F_X12_lose v1 s1 = r ∧ G (S_X12_lose v1 s1)) ∧ ∀ t, G t → Rel t :=
  ⟨fun t => RSh t ∧ Same DSh s t, op_lose h.1, fun _ q => Rel_sh h q.1 q.2⟩
theorem R_copy {v1 v2 v3 v4 v5 : Int} {s : Sto} (h : Rel s) (r2 : r32 v2) (r4 : r32 v4) (r5 : r32 v5) : ∃ G : Sto → Prop, P_X11_copy v1 v2 v3 v4 v5 s (fun r s1 => P_X12_copy v1 v2 v3 v4 v5 s1 (fun r2 s2 => r2 = r ∧ G s2)) ∧ ∀ t, G t → Rel t :=
  ⟨fun t => RSh t ∧ Same DSh s t, op_copy h.1 r2 r4 r5, fun _ q => Rel_sh h q.1 q.2⟩
theorem R_read {v1 : Int} {s : Sto} (h : Rel s) : ∃ G : Sto → Prop, P_X11_read v1 s (fun r s1 => P_X12_read v1 s1 (fun r2 s2 => r2 = r ∧ G s2)) ∧ ∀ t, G t → Rel t :=
  ⟨fun t => RSh t ∧ RRg t ∧ Same (fun a b => DRg a b ∨ (a = 0 ∧ b = 11) ∨ (a = 69 ∧ b = 4)) s t ∧ (Same (fun a b => (a = 0 ∧ b = 11) ∨ (a = 69 ∧ b = 4)) s t ∨ t 0 12 = 0), op_read h.1 h.2.1, fun _ q => Rel_rd h q.1 q.2.1 q.2.2.1 q.2.2.2⟩
theorem R_type {v1 v2 : Int} {s : Sto} (h : Rel s) : ∃ G : Sto → Prop, P_X11_type v1 v2 s (fun r s1 => O_X12_type v1 v2 s1 ∧ F_X12_type v1 v2 s1 = r ∧ G (S_X12_type v1 v2 s1)) ∧ ∀ t, G t → Rel t :=
  ⟨fun t => RTx t ∧ RDv t ∧ Same DTx s t ∧ (t = s ∨ t 0 12 = 0), op_type h.2.2.2.2.1 h.2.2.2.2.2.1, fun _ q => Rel_tx h q.1 q.2.1 q.2.2.1 q.2.2.2⟩
theorem R_wipe {v1 : Int} {s : Sto} (h : Rel s) : ∃ G : Sto → Prop, P_X11_wipe v1 s (fun r s1 => O_X12_wipe v1 s1 ∧ F_X12_wipe v1 s1 = r ∧ G (S_X12_wipe v1 s1)) ∧ ∀ t, G t → Rel t :=
  ⟨fun t => RTx t ∧ RDv t ∧ Same DTx s t ∧ (t = s ∨ t 0 12 = 0), op_wipe h.2.2.2.2.1 h.2.2.2.2.2.1, fun _ q => Rel_tx h q.1 q.2.1 q.2.2.1 q.2.2.2⟩
theorem R_undo {v1 : Int} {s : Sto} (h : Rel s) : ∃ G : Sto → Prop, P_X11_undo v1 s (fun r s1 => O_X12_undo v1 s1 ∧ F_X12_undo v1 s1 = r ∧ G (S_X12_undo v1 s1)) ∧ ∀ t, G t → Rel t :=
  ⟨fun t => RTx t ∧ RDv t ∧ Same DTx s t ∧ (t = s ∨ t 0 12 = 0), op_undo h.2.2.2.2.1 h.2.2.2.2.2.1, fun _ q => Rel_tx h q.1 q.2.1 q.2.2.1 q.2.2.2⟩
theorem R_seen {v1 v2 : Int} {s : Sto} (h : Rel s) : O_X11_seen v1 v2 s ∧ O_X12_seen v1 v2 (S_X11_seen v1 v2 s) ∧ F_X12_seen v1 v2 (S_X11_seen v1 v2 s) = F_X11_seen v1 v2 s ∧ Rel (S_X12_seen v1 v2 (S_X11_seen v1 v2 s)) := by
  obtain ⟨a1, a2, a3, a4, a5⟩ := op_seen (v1 := v1) (v2 := v2) h.2.2.2.1
  exact ⟨a1, a2, a3, Rel_st h a4 a5⟩
theorem R_forget {s : Sto} (h : Rel s) : F_X12_forget (S_X11_forget s) = F_X11_forget s ∧ Rel (S_X12_forget (S_X11_forget s)) := by
  obtain ⟨a3, a4, a5⟩ := op_forget h.2.2.2.1
  exact ⟨a3, Rel_st h a4 a5⟩
theorem R_lay {v1 v2 v3 v4 : Int} {s : Sto} (h : Rel s) : O_X11_lay v1 v2 v3 v4 s ∧ O_X12_lay v1 v2 v3 v4 (S_X11_lay v1 v2 v3 v4 s) ∧ F_X12_lay v1 v2 v3 v4 (S_X11_lay v1 v2 v3 v4 s) = F_X11_lay v1 v2 v3 v4 s ∧ Rel (S_X12_lay v1 v2 v3 v4 (S_X11_lay v1 v2 v3 v4 s)) := by
  obtain ⟨a1, a2, a3, a4, a5⟩ := op_lay (v1 := v1) (v2 := v2) (v3 := v3) (v4 := v4) h.1
  exact ⟨a1, a2, a3, Rel_sh h a4 a5⟩
theorem R_get {v1 v2 v3 : Int} {s : Sto} (h : Rel s) : O_X11_get v1 v2 v3 s ∧ O_X12_get v1 v2 v3 (S_X11_get v1 v2 v3 s) ∧ F_X12_get v1 v2 v3 (S_X11_get v1 v2 v3 s) = F_X11_get v1 v2 v3 s ∧ Rel (S_X12_get v1 v2 v3 (S_X11_get v1 v2 v3 s)) := by
  obtain ⟨a1, a2, a3, a4, a5⟩ := op_get (v1 := v1) (v2 := v2) (v3 := v3) h.1
  exact ⟨a1, a2, a3, Rel_sh h a4 a5⟩
theorem R_blow {v1 v2 v3 v4 v5 : Int} {s : Sto} (h : Rel s) : O_X11_blow v1 v2 v3 v4 v5 s ∧ O_X12_blow v1 v2 v3 v4 v5 (S_X11_blow v1 v2 v3 v4 v5 s) ∧ F_X12_blow v1 v2 v3 v4 v5 (S_X11_blow v1 v2 v3 v4 v5 s) = F_X11_blow v1 v2 v3 v4 v5 s ∧ Rel (S_X12_blow v1 v2 v3 v4 v5 (S_X11_blow v1 v2 v3 v4 v5 s)) := by
  obtain ⟨a1, a2, a3, a4, a5, a6⟩ := op_blow (v1 := v1) (v2 := v2) (v3 := v3) (v4 := v4) (v5 := v5) h.2.1
  exact ⟨a1, a2, a3, Rel_rg h a4 a5 a6⟩
theorem R_ring {v1 v2 : Int} {s : Sto} (h : Rel s) : O_X11_ring v1 v2 s ∧ O_X12_ring v1 v2 s ∧ F_X12_ring v1 v2 s = F_X11_ring v1 v2 s ∧ Rel s := by
  obtain ⟨a1, a2, a3⟩ := op_ring (v1 := v1) (v2 := v2) h.2.1
  exact ⟨a1, a2, a3, h⟩
theorem R_back {s : Sto} (h : Rel s) : F_X12_back (S_X11_back s) = F_X11_back s ∧ Rel (S_X12_back (S_X11_back s)) := by
  obtain ⟨a3, a4, a5, a6⟩ := op_back h.2.1
  exact ⟨a3, Rel_rg h a4 a5 a6⟩
theorem R_widens {v1 : Int} {s : Sto} (h : Rel s) : F_X12_widens v1 (S_X11_widens v1 s) = F_X11_widens v1 s ∧ Rel (S_X12_widens v1 (S_X11_widens v1 s)) := by
  obtain ⟨a3, a4, a5, a6⟩ := op_widens (v1 := v1) h.2.2.1
  exact ⟨a3, Rel_wd h a4 a5 a6⟩
