/-! ===== the law: its cases and its loop, by program ===== -/
theorem K_type {v1 v2 : Int} {s : Sto} (h : Rel s) : ∃ QC1 : Int → Sto → Prop, sr_C yX11_type cX11_type 3 (some .int) 5 [vR 0, vI v1, vI v2] s QC1 ∧ ∀ r s1, QC1 r s1 → ∃ QC2 : Int → Sto → Prop, sr_C yX12_type cX12_type 3 (some .int) 2 [vR 69, vI v1, vI v2] s1 QC2 ∧ ∀ r2 s2, QC2 r2 s2 → r2 = r ∧ Rel s2 := by
  obtain ⟨G, hp, hg⟩ := R_type (v1 := v1) (v2 := v2) h
  exact ⟨_, C_X11_type hp, fun r s1 h1 => ⟨_, C_X12_type h1.1, fun r2 s2 h2 => ⟨h2.1.trans h1.2.1, by rw [h2.2]; exact hg _ h1.2.2⟩⟩⟩
theorem K_wipe {v1 : Int} {s : Sto} (h : Rel s) : ∃ QC1 : Int → Sto → Prop, sr_C yX11_wipe cX11_wipe 3 (some .int) 5 [vR 0, vI v1] s QC1 ∧ ∀ r s1, QC1 r s1 → ∃ QC2 : Int → Sto → Prop, sr_C yX12_wipe cX12_wipe 3 (some .int) 2 [vR 69, vI v1] s1 QC2 ∧ ∀ r2 s2, QC2 r2 s2 → r2 = r ∧ Rel s2 := by
  obtain ⟨G, hp, hg⟩ := R_wipe (v1 := v1) h
  exact ⟨_, C_X11_wipe hp, fun r s1 h1 => ⟨_, C_X12_wipe h1.1, fun r2 s2 h2 => ⟨h2.1.trans h1.2.1, by rw [h2.2]; exact hg _ h1.2.2⟩⟩⟩
theorem K_undo {v1 : Int} {s : Sto} (h : Rel s) : ∃ QC1 : Int → Sto → Prop, sr_C yX11_undo cX11_undo 2 (some .int) 5 [vR 0, vI v1] s QC1 ∧ ∀ r s1, QC1 r s1 → ∃ QC2 : Int → Sto → Prop, sr_C yX12_undo cX12_undo 2 (some .int) 2 [vR 69, vI v1] s1 QC2 ∧ ∀ r2 s2, QC2 r2 s2 → r2 = r ∧ Rel s2 := by
  obtain ⟨G, hp, hg⟩ := R_undo (v1 := v1) h
  exact ⟨_, C_X11_undo hp, fun r s1 h1 => ⟨_, C_X12_undo h1.1, fun r2 s2 h2 => ⟨h2.1.trans h1.2.1, by rw [h2.2]; exact hg _ h1.2.2⟩⟩⟩
theorem K_fault {v1 : Int} {s : Sto} (h : Rel s) : ∃ QC1 : Int → Sto → Prop, sr_C yX11_fault cX11_fault 2 (some .int) 1 [vR 0, vI v1] s QC1 ∧ ∀ r s1, QC1 r s1 → ∃ QC2 : Int → Sto → Prop, sr_C yX12_fault cX12_fault 2 (some .int) 4 [vR 69, vI v1] s1 QC2 ∧ ∀ r2 s2, QC2 r2 s2 → r2 = r ∧ Rel s2 := by
  obtain ⟨hO, hP⟩ := R_fault (v1 := v1) h
  exact ⟨_, C_X11_fault hO, fun r s1 h1 => by obtain ⟨rfl, rfl⟩ := h1; exact ⟨_, C_X12_fault hP, fun _ _ h2 => h2⟩⟩
theorem K_cell {v1 : Int} {s : Sto} (h : Rel s) : ∃ QC1 : Int → Sto → Prop, sr_C yX11_cell cX11_cell 2 (some .int) 1 [vR 0, vI v1] s QC1 ∧ ∀ r s1, QC1 r s1 → ∃ QC2 : Int → Sto → Prop, sr_C yX12_cell cX12_cell 2 (some .int) 2 [vR 69, vI v1] s1 QC2 ∧ ∀ r2 s2, QC2 r2 s2 → r2 = r ∧ Rel s2 := by
  obtain ⟨hO, hP⟩ := R_cell (v1 := v1) h
  exact ⟨_, C_X11_cell hO, fun r s1 h1 => by obtain ⟨rfl, rfl⟩ := h1; exact ⟨_, C_X12_cell hP, fun _ _ h2 => h2⟩⟩
theorem K_thing {v1 v2 : Int} {s : Sto} (h : Rel s) : ∃ QC1 : Int → Sto → Prop, sr_C yX11_thing cX11_thing 3 (some .int) 2 [vR 0, vI v1, vI v2] s QC1 ∧ ∀ r s1, QC1 r s1 → ∃ QC2 : Int → Sto → Prop, sr_C yX12_thing cX12_thing 3 (some .int) 3 [vR 69, vI v1, vI v2] s1 QC2 ∧ ∀ r2 s2, QC2 r2 s2 → r2 = r ∧ Rel s2 := by
  obtain ⟨hO, hP⟩ := R_thing (v1 := v1) (v2 := v2) h
  exact ⟨_, C_X11_thing hO, fun r s1 h1 => by obtain ⟨rfl, rfl⟩ := h1; exact ⟨_, C_X12_thing hP, fun _ _ h2 => h2⟩⟩
theorem K_wind {v1 : Int} {s : Sto} (h : Rel s) : ∃ QC1 : Int → Sto → Prop, sr_C yX11_wind cX11_wind 2 (some .int) 1 [vR 0, vI v1] s QC1 ∧ ∀ r s1, QC1 r s1 → ∃ QC2 : Int → Sto → Prop, sr_C yX12_wind cX12_wind 2 (some .int) 2 [vR 69, vI v1] s1 QC2 ∧ ∀ r2 s2, QC2 r2 s2 → r2 = r ∧ Rel s2 := by
  obtain ⟨hO, hP⟩ := R_wind (v1 := v1) h
  exact ⟨_, C_X11_wind hO, fun r s1 h1 => by obtain ⟨rfl, rfl⟩ := h1; exact ⟨_, C_X12_wind hP, fun _ _ h2 => h2⟩⟩
theorem K_widens {v1 : Int} {s : Sto} (h : Rel s) : ∃ QC1 : Int → Sto → Prop, sr_C yX11_widens cX11_widens 3 (some .int) 1 [vR 0, vI v1] s QC1 ∧ ∀ r s1, QC1 r s1 → ∃ QC2 : Int → Sto → Prop, sr_C yX12_widens cX12_widens 3 (some .int) 1 [vR 69, vI v1] s1 QC2 ∧ ∀ r2 s2, QC2 r2 s2 → r2 = r ∧ Rel s2 := by
  obtain ⟨he, hR⟩ := R_widens (v1 := v1) h
  exact ⟨_, C_X11_widens, fun r s1 h1 => by obtain ⟨rfl, rfl⟩ := h1; exact ⟨_, C_X12_widens, fun _ _ h2 => by obtain ⟨rfl, rfl⟩ := h2; exact ⟨he, hR⟩⟩⟩
theorem K_blow {v1 v2 v3 v4 v5 : Int} {s : Sto} (h : Rel s) : ∃ QC1 : Int → Sto → Prop, sr_C yX11_blow cX11_blow 6 (some .int) 2 [vR 0, vI v1, vI v2, vI v3, vI v4, vI v5] s QC1 ∧ ∀ r s1, QC1 r s1 → ∃ QC2 : Int → Sto → Prop, sr_C yX12_blow cX12_blow 6 (some .int) 2 [vR 69, vI v1, vI v2, vI v3, vI v4, vI v5] s1 QC2 ∧ ∀ r2 s2, QC2 r2 s2 → r2 = r ∧ Rel s2 := by
  obtain ⟨hO, hO2, he, hR⟩ := R_blow (v1 := v1) (v2 := v2) (v3 := v3) (v4 := v4) (v5 := v5) h
  exact ⟨_, C_X11_blow hO, fun r s1 h1 => by obtain ⟨rfl, rfl⟩ := h1; exact ⟨_, C_X12_blow hO2, fun _ _ h2 => by obtain ⟨rfl, rfl⟩ := h2; exact ⟨he, hR⟩⟩⟩
theorem K_ring {v1 v2 : Int} {s : Sto} (h : Rel s) : ∃ QC1 : Int → Sto → Prop, sr_C yX11_ring cX11_ring 3 (some .int) 2 [vR 0, vI v1, vI v2] s QC1 ∧ ∀ r s1, QC1 r s1 → ∃ QC2 : Int → Sto → Prop, sr_C yX12_ring cX12_ring 3 (some .int) 2 [vR 69, vI v1, vI v2] s1 QC2 ∧ ∀ r2 s2, QC2 r2 s2 → r2 = r ∧ Rel s2 := by
  obtain ⟨hO, hO2, he, hR⟩ := R_ring (v1 := v1) (v2 := v2) h
  exact ⟨_, C_X11_ring hO, fun r s1 h1 => by obtain ⟨rfl, rfl⟩ := h1; exact ⟨_, C_X12_ring hO2, fun _ _ h2 => by obtain ⟨rfl, rfl⟩ := h2; exact ⟨he, hR⟩⟩⟩
theorem K_back {s : Sto} (h : Rel s) : ∃ QC1 : Int → Sto → Prop, sr_C yX11_back cX11_back 1 (some .int) 0 [vR 0] s QC1 ∧ ∀ r s1, QC1 r s1 → ∃ QC2 : Int → Sto → Prop, sr_C yX12_back cX12_back 1 (some .int) 0 [vR 69] s1 QC2 ∧ ∀ r2 s2, QC2 r2 s2 → r2 = r ∧ Rel s2 := by
  obtain ⟨he, hR⟩ := R_back h
  exact ⟨_, C_X11_back, fun r s1 h1 => by obtain ⟨rfl, rfl⟩ := h1; exact ⟨_, C_X12_back, fun _ _ h2 => by obtain ⟨rfl, rfl⟩ := h2; exact ⟨he, hR⟩⟩⟩
theorem K_read {v1 : Int} {s : Sto} (h : Rel s) : ∃ QC1 : Int → Sto → Prop, sr_C yX11_read cX11_read 10 (some .int) 2 [vR 0, vI v1] s QC1 ∧ ∀ r s1, QC1 r s1 → ∃ QC2 : Int → Sto → Prop, sr_C yX12_read cX12_read 5 (some .int) 3 [vR 69, vI v1] s1 QC2 ∧ ∀ r2 s2, QC2 r2 s2 → r2 = r ∧ Rel s2 := by
  obtain ⟨G, hp, hg⟩ := R_read (v1 := v1) h
  exact ⟨_, C_X11_read hp, fun r s1 h1 => ⟨_, C_X12_read h1, fun _ t h2 => ⟨h2.1, hg t h2.2⟩⟩⟩
theorem K_at {v1 v2 v3 : Int} {s : Sto} (h : Rel s) : ∃ QC1 : Int → Sto → Prop, sr_C yX11_at cX11_at 4 (some .int) 4 [vR 0, vI v1, vI v2, vI v3] s QC1 ∧ ∀ r s1, QC1 r s1 → ∃ QC2 : Int → Sto → Prop, sr_C yX12_at cX12_at 4 (some .int) 6 [vR 69, vI v1, vI v2, vI v3] s1 QC2 ∧ ∀ r2 s2, QC2 r2 s2 → r2 = r ∧ Rel s2 := by
  exact ⟨_, C_X11_at (R_at (v1 := v1) (v2 := v2) (v3 := v3) h), fun r s1 h1 => ⟨_, C_X12_at h1, fun _ _ h2 => h2⟩⟩
theorem K_bound {v1 v2 : Int} {s : Sto} (h : Rel s) : ∃ QC1 : Int → Sto → Prop, sr_C yX11_bound cX11_bound 3 (some .int) 4 [vR 0, vI v1, vI v2] s QC1 ∧ ∀ r s1, QC1 r s1 → ∃ QC2 : Int → Sto → Prop, sr_C yX12_bound cX12_bound 3 (some .int) 6 [vR 69, vI v1, vI v2] s1 QC2 ∧ ∀ r2 s2, QC2 r2 s2 → r2 = r ∧ Rel s2 := by
  exact ⟨_, C_X11_bound (R_bound (v1 := v1) (v2 := v2) h), fun r s1 h1 => ⟨_, C_X12_bound h1, fun _ _ h2 => h2⟩⟩
theorem K_wed {v1 v2 : Int} {s : Sto} (h : Rel s) : ∃ QC1 : Int → Sto → Prop, sr_C yX11_wed cX11_wed 3 (some .int) 4 [vR 0, vI v1, vI v2] s QC1 ∧ ∀ r s1, QC1 r s1 → ∃ QC2 : Int → Sto → Prop, sr_C yX12_wed cX12_wed 3 (some .int) 6 [vR 69, vI v1, vI v2] s1 QC2 ∧ ∀ r2 s2, QC2 r2 s2 → r2 = r ∧ Rel s2 := by
  exact ⟨_, C_X11_wed (R_wed (v1 := v1) (v2 := v2) h), fun r s1 h1 => ⟨_, C_X12_wed h1, fun _ _ h2 => h2⟩⟩
theorem K_throughs {v1 : Int} {s : Sto} (h : Rel s) : ∃ QC1 : Int → Sto → Prop, sr_C yX11_throughs cX11_throughs 2 (some .int) 4 [vR 0, vI v1] s QC1 ∧ ∀ r s1, QC1 r s1 → ∃ QC2 : Int → Sto → Prop, sr_C yX12_throughs cX12_throughs 2 (some .int) 6 [vR 69, vI v1] s1 QC2 ∧ ∀ r2 s2, QC2 r2 s2 → r2 = r ∧ Rel s2 := by
  exact ⟨_, C_X11_throughs (R_throughs (v1 := v1) h), fun r s1 h1 => ⟨_, C_X12_throughs h1, fun _ _ h2 => h2⟩⟩
theorem K_missed {s : Sto} (h : Rel s) : ∃ QC1 : Int → Sto → Prop, sr_C yX11_missed cX11_missed 3 (some .int) 4 [vR 0] s QC1 ∧ ∀ r s1, QC1 r s1 → ∃ QC2 : Int → Sto → Prop, sr_C yX12_missed cX12_missed 1 (some .int) 6 [vR 69] s1 QC2 ∧ ∀ r2 s2, QC2 r2 s2 → r2 = r ∧ Rel s2 := by
  exact ⟨_, C_X11_missed (R_missed h), fun r s1 h1 => ⟨_, C_X12_missed h1, fun _ _ h2 => h2⟩⟩
theorem K_richest {s : Sto} (h : Rel s) : ∃ QC1 : Int → Sto → Prop, sr_C yX11_richest cX11_richest 5 (some .int) 4 [vR 0] s QC1 ∧ ∀ r s1, QC1 r s1 → ∃ QC2 : Int → Sto → Prop, sr_C yX12_richest cX12_richest 1 (some .int) 6 [vR 69] s1 QC2 ∧ ∀ r2 s2, QC2 r2 s2 → r2 = r ∧ Rel s2 := by
  exact ⟨_, C_X11_richest (R_richest h), fun r s1 h1 => ⟨_, C_X12_richest h1, fun _ _ h2 => h2⟩⟩
theorem K_lonely {s : Sto} (h : Rel s) : ∃ QC1 : Int → Sto → Prop, sr_C yX11_lonely cX11_lonely 4 (some .int) 4 [vR 0] s QC1 ∧ ∀ r s1, QC1 r s1 → ∃ QC2 : Int → Sto → Prop, sr_C yX12_lonely cX12_lonely 1 (some .int) 6 [vR 69] s1 QC2 ∧ ∀ r2 s2, QC2 r2 s2 → r2 = r ∧ Rel s2 := by
  exact ⟨_, C_X11_lonely (R_lonely h), fun r s1 h1 => ⟨_, C_X12_lonely h1, fun _ _ h2 => h2⟩⟩
theorem K_breath {v1 v2 : Int} {s : Sto} (h : Rel s) : ∃ QC1 : Int → Sto → Prop, sr_C yX11_breath cX11_breath 3 (some .int) 5 [vR 0, vI v1, vI v2] s QC1 ∧ ∀ r s1, QC1 r s1 → ∃ QC2 : Int → Sto → Prop, sr_C yX12_breath cX12_breath 3 (some .int) 6 [vR 69, vI v1, vI v2] s1 QC2 ∧ ∀ r2 s2, QC2 r2 s2 → r2 = r ∧ Rel s2 := by
  exact ⟨_, C_X11_breath (R_breath (v1 := v1) (v2 := v2) h), fun r s1 h1 => ⟨_, C_X12_breath h1, fun _ _ h2 => h2⟩⟩
theorem K_aim {v1 v2 : Int} {s : Sto} (h : Rel s) : ∃ QC1 : Int → Sto → Prop, sr_C yX11_aim cX11_aim 3 (some .int) 5 [vR 0, vI v1, vI v2] s QC1 ∧ ∀ r s1, QC1 r s1 → ∃ QC2 : Int → Sto → Prop, sr_C yX12_aim cX12_aim 3 (some .int) 6 [vR 69, vI v1, vI v2] s1 QC2 ∧ ∀ r2 s2, QC2 r2 s2 → r2 = r ∧ Rel s2 := by
  exact ⟨_, C_X11_aim (R_aim (v1 := v1) (v2 := v2) h), fun r s1 h1 => ⟨_, C_X12_aim h1, fun _ _ h2 => h2⟩⟩
theorem K_stand {v1 : Int} {s : Sto} (h : Rel s) : ∃ QC1 : Int → Sto → Prop, sr_C yX11_stand cX11_stand 2 (some .int) 6 [vR 0, vI v1] s QC1 ∧ ∀ r s1, QC1 r s1 → ∃ QC2 : Int → Sto → Prop, sr_C yX12_stand cX12_stand 2 (some .int) 6 [vR 69, vI v1] s1 QC2 ∧ ∀ r2 s2, QC2 r2 s2 → r2 = r ∧ Rel s2 := by
  exact ⟨_, C_X11_stand (R_stand (v1 := v1) h), fun r s1 h1 => ⟨_, C_X12_stand h1, fun _ _ h2 => h2⟩⟩
theorem K_hush {v1 v2 : Int} {s : Sto} (h : Rel s) : ∃ QC1 : Int → Sto → Prop, sr_C yX11_hush cX11_hush 3 (some .int) 6 [vR 0, vI v1, vI v2] s QC1 ∧ ∀ r s1, QC1 r s1 → ∃ QC2 : Int → Sto → Prop, sr_C yX12_hush cX12_hush 3 (some .int) 7 [vR 69, vI v1, vI v2] s1 QC2 ∧ ∀ r2 s2, QC2 r2 s2 → r2 = r ∧ Rel s2 := by
  exact ⟨_, C_X11_hush (R_hush (v1 := v1) (v2 := v2) h), fun r s1 h1 => ⟨_, C_X12_hush h1, fun _ _ h2 => h2⟩⟩
theorem K_calm {v1 : Int} {s : Sto} (h : Rel s) : ∃ QC1 : Int → Sto → Prop, sr_C yX11_calm cX11_calm 2 (some .int) 5 [vR 0, vI v1] s QC1 ∧ ∀ r s1, QC1 r s1 → ∃ QC2 : Int → Sto → Prop, sr_C yX12_calm cX12_calm 2 (some .int) 6 [vR 69, vI v1] s1 QC2 ∧ ∀ r2 s2, QC2 r2 s2 → r2 = r ∧ Rel s2 := by
  exact ⟨_, C_X11_calm (R_calm (v1 := v1) h), fun r s1 h1 => ⟨_, C_X12_calm h1, fun _ _ h2 => h2⟩⟩
theorem K_free {v1 v2 v3 : Int} {s : Sto} (h : Rel s) : ∃ QC1 : Int → Sto → Prop, sr_C yX11_free cX11_free 4 (some .int) 4 [vR 0, vI v1, vI v2, vI v3] s QC1 ∧ ∀ r s1, QC1 r s1 → ∃ QC2 : Int → Sto → Prop, sr_C yX12_free cX12_free 4 (some .int) 6 [vR 69, vI v1, vI v2, vI v3] s1 QC2 ∧ ∀ r2 s2, QC2 r2 s2 → r2 = r ∧ Rel s2 := by
  exact ⟨_, C_X11_free (R_free (v1 := v1) (v2 := v2) (v3 := v3) h), fun r s1 h1 => ⟨_, C_X12_free h1, fun _ _ h2 => h2⟩⟩
theorem K_seen {v1 v2 : Int} {s : Sto} (h : Rel s) : ∃ QC1 : Int → Sto → Prop, sr_C yX11_seen cX11_seen 3 (some .int) 1 [vR 0, vI v1, vI v2] s QC1 ∧ ∀ r s1, QC1 r s1 → ∃ QC2 : Int → Sto → Prop, sr_C yX12_seen cX12_seen 3 (some .int) 1 [vR 69, vI v1, vI v2] s1 QC2 ∧ ∀ r2 s2, QC2 r2 s2 → r2 = r ∧ Rel s2 := by
  obtain ⟨hO, hO2, he, hR⟩ := R_seen (v1 := v1) (v2 := v2) h
  exact ⟨_, C_X11_seen hO, fun r s1 h1 => by obtain ⟨rfl, rfl⟩ := h1; exact ⟨_, C_X12_seen hO2, fun _ _ h2 => by obtain ⟨rfl, rfl⟩ := h2; exact ⟨he, hR⟩⟩⟩
theorem K_forget {s : Sto} (h : Rel s) : ∃ QC1 : Int → Sto → Prop, sr_C yX11_forget cX11_forget 2 (some .int) 0 [vR 0] s QC1 ∧ ∀ r s1, QC1 r s1 → ∃ QC2 : Int → Sto → Prop, sr_C yX12_forget cX12_forget 2 (some .int) 0 [vR 69] s1 QC2 ∧ ∀ r2 s2, QC2 r2 s2 → r2 = r ∧ Rel s2 := by
  obtain ⟨he, hR⟩ := R_forget h
  exact ⟨_, C_X11_forget, fun r s1 h1 => by obtain ⟨rfl, rfl⟩ := h1; exact ⟨_, C_X12_forget, fun _ _ h2 => by obtain ⟨rfl, rfl⟩ := h2; exact ⟨he, hR⟩⟩⟩
theorem K_never {s : Sto} (h : Rel s) : ∃ QC1 : Int → Sto → Prop, sr_C yX11_never cX11_never 1 (some .int) 6 [vR 0] s QC1 ∧ ∀ r s1, QC1 r s1 → ∃ QC2 : Int → Sto → Prop, sr_C yX12_never cX12_never 1 (some .int) 7 [vR 69] s1 QC2 ∧ ∀ r2 s2, QC2 r2 s2 → r2 = r ∧ Rel s2 := by
  exact ⟨_, C_X11_never (R_never h), fun r s1 h1 => ⟨_, C_X12_never h1, fun _ _ h2 => h2⟩⟩
theorem K_whence {v1 v2 : Int} {s : Sto} (h : Rel s) : ∃ QC1 : Int → Sto → Prop, sr_C yX11_whence cX11_whence 3 (some .int) 6 [vR 0, vI v1, vI v2] s QC1 ∧ ∀ r s1, QC1 r s1 → ∃ QC2 : Int → Sto → Prop, sr_C yX12_whence cX12_whence 3 (some .int) 7 [vR 69, vI v1, vI v2] s1 QC2 ∧ ∀ r2 s2, QC2 r2 s2 → r2 = r ∧ Rel s2 := by
  exact ⟨_, C_X11_whence (R_whence (v1 := v1) (v2 := v2) h), fun r s1 h1 => ⟨_, C_X12_whence h1, fun _ _ h2 => h2⟩⟩
theorem K_paces {s : Sto} (h : Rel s) : ∃ QC1 : Int → Sto → Prop, sr_C yX11_paces cX11_paces 1 (some .int) 6 [vR 0] s QC1 ∧ ∀ r s1, QC1 r s1 → ∃ QC2 : Int → Sto → Prop, sr_C yX12_paces cX12_paces 1 (some .int) 7 [vR 69] s1 QC2 ∧ ∀ r2 s2, QC2 r2 s2 → r2 = r ∧ Rel s2 := by
  exact ⟨_, C_X11_paces (R_paces h), fun r s1 h1 => ⟨_, C_X12_paces h1, fun _ _ h2 => h2⟩⟩
theorem K_ask {s : Sto} (h : Rel s) : ∃ QC1 : Int → Sto → Prop, sr_C yX11_ask cX11_ask 1 (some .int) 5 [vR 0] s QC1 ∧ ∀ r s1, QC1 r s1 → ∃ QC2 : Int → Sto → Prop, sr_C yX12_ask cX12_ask 1 (some .int) 8 [vR 69] s1 QC2 ∧ ∀ r2 s2, QC2 r2 s2 → r2 = r ∧ Rel s2 := by
  exact ⟨_, C_X11_ask (R_ask h), fun r s1 h1 => ⟨_, C_X12_ask h1, fun _ _ h2 => h2⟩⟩
theorem K_still {v1 v2 v3 v4 v5 : Int} {s : Sto} (h : Rel s) : ∃ QC1 : Int → Sto → Prop, sr_C yX11_still cX11_still 6 (some .long) 6 [vR 0, vI v1, vI v2, vI v3, vI v4, vI v5] s QC1 ∧ ∀ r s1, QC1 r s1 → ∃ QC2 : Int → Sto → Prop, sr_C yX12_still cX12_still 6 (some .long) 6 [vR 69, vI v1, vI v2, vI v3, vI v4, vI v5] s1 QC2 ∧ ∀ r2 s2, QC2 r2 s2 → r2 = r ∧ Rel s2 := by
  exact ⟨_, C_X11_still (R_still (v1 := v1) (v2 := v2) (v3 := v3) (v4 := v4) (v5 := v5) h), fun r s1 h1 => ⟨_, C_X12_still h1, fun _ _ h2 => h2⟩⟩
theorem K_evening {v1 v2 v3 : Int} {s : Sto} (h : Rel s) : ∃ QC1 : Int → Sto → Prop, sr_C yX11_evening cX11_evening 4 (some .int) 5 [vR 0, vI v1, vI v2, vI v3] s QC1 ∧ ∀ r s1, QC1 r s1 → ∃ QC2 : Int → Sto → Prop, sr_C yX12_evening cX12_evening 4 (some .int) 6 [vR 69, vI v1, vI v2, vI v3] s1 QC2 ∧ ∀ r2 s2, QC2 r2 s2 → r2 = r ∧ Rel s2 := by
  exact ⟨_, C_X11_evening (R_evening (v1 := v1) (v2 := v2) (v3 := v3) h), fun r s1 h1 => ⟨_, C_X12_evening h1, fun _ _ h2 => h2⟩⟩
theorem K_sheet {v1 v2 v3 : Int} {s : Sto} (h : Rel s) : ∃ QC1 : Int → Sto → Prop, sr_C yX11_sheet cX11_sheet 4 (some .int) 2 [vR 0, vI v1, vI v2, vI v3] s QC1 ∧ ∀ r s1, QC1 r s1 → ∃ QC2 : Int → Sto → Prop, sr_C yX12_sheet cX12_sheet 5 (some .int) 2 [vR 69, vI v1, vI v2, vI v3] s1 QC2 ∧ ∀ r2 s2, QC2 r2 s2 → r2 = r ∧ Rel s2 := by
  obtain ⟨G, hp, hg⟩ := R_sheet (v1 := v1) (v2 := v2) (v3 := v3) h
  exact ⟨_, C_X11_sheet hp, fun r s1 h1 => ⟨_, C_X12_sheet h1, fun _ t h2 => ⟨h2.1, hg t h2.2⟩⟩⟩
theorem K_lose {v1 : Int} {s : Sto} (h : Rel s) : ∃ QC1 : Int → Sto → Prop, sr_C yX11_lose cX11_lose 3 (some .int) 2 [vR 0, vI v1] s QC1 ∧ ∀ r s1, QC1 r s1 → ∃ QC2 : Int → Sto → Prop, sr_C yX12_lose cX12_lose 2 (some .int) 2 [vR 69, vI v1] s1 QC2 ∧ ∀ r2 s2, QC2 r2 s2 → r2 = r ∧ Rel s2 := by
  obtain ⟨G, hp, hg⟩ := R_lose (v1 := v1) h
  exact ⟨_, C_X11_lose hp, fun r s1 h1 => ⟨_, C_X12_lose h1.1, fun r2 s2 h2 => ⟨h2.1.trans h1.2.1, by rw [h2.2]; exact hg _ h1.2.2⟩⟩⟩
theorem K_lay {v1 v2 v3 v4 : Int} {s : Sto} (h : Rel s) : ∃ QC1 : Int → Sto → Prop, sr_C yX11_lay cX11_lay 6 (some .int) 2 [vR 0, vI v1, vI v2, vI v3, vI v4] s QC1 ∧ ∀ r s1, QC1 r s1 → ∃ QC2 : Int → Sto → Prop, sr_C yX12_lay cX12_lay 6 (some .int) 2 [vR 69, vI v1, vI v2, vI v3, vI v4] s1 QC2 ∧ ∀ r2 s2, QC2 r2 s2 → r2 = r ∧ Rel s2 := by
  obtain ⟨hO, hO2, he, hR⟩ := R_lay (v1 := v1) (v2 := v2) (v3 := v3) (v4 := v4) h
  exact ⟨_, C_X11_lay hO, fun r s1 h1 => by obtain ⟨rfl, rfl⟩ := h1; exact ⟨_, C_X12_lay hO2, fun _ _ h2 => by obtain ⟨rfl, rfl⟩ := h2; exact ⟨he, hR⟩⟩⟩
theorem K_get {v1 v2 v3 : Int} {s : Sto} (h : Rel s) : ∃ QC1 : Int → Sto → Prop, sr_C yX11_get cX11_get 5 (some .int) 2 [vR 0, vI v1, vI v2, vI v3] s QC1 ∧ ∀ r s1, QC1 r s1 → ∃ QC2 : Int → Sto → Prop, sr_C yX12_get cX12_get 4 (some .int) 2 [vR 69, vI v1, vI v2, vI v3] s1 QC2 ∧ ∀ r2 s2, QC2 r2 s2 → r2 = r ∧ Rel s2 := by
  obtain ⟨hO, hO2, he, hR⟩ := R_get (v1 := v1) (v2 := v2) (v3 := v3) h
  exact ⟨_, C_X11_get hO, fun r s1 h1 => by obtain ⟨rfl, rfl⟩ := h1; exact ⟨_, C_X12_get hO2, fun _ _ h2 => by obtain ⟨rfl, rfl⟩ := h2; exact ⟨he, hR⟩⟩⟩
theorem K_copy {v1 v2 v3 v4 v5 : Int} {s : Sto} (h : Rel s) (r2 : r32 v2) (r4 : r32 v4) (r5 : r32 v5) : ∃ QC1 : Int → Sto → Prop, sr_C yX11_copy cX11_copy 8 (some .int) 1 [vR 0, vI v1, vI v2, vI v3, vI v4, vI v5] s QC1 ∧ ∀ r s1, QC1 r s1 → ∃ QC2 : Int → Sto → Prop, sr_C yX12_copy cX12_copy 7 (some .int) 2 [vR 69, vI v1, vI v2, vI v3, vI v4, vI v5] s1 QC2 ∧ ∀ r2 s2, QC2 r2 s2 → r2 = r ∧ Rel s2 := by
  obtain ⟨G, hp, hg⟩ := R_copy (v1 := v1) (v2 := v2) (v3 := v3) (v4 := v4) (v5 := v5) h r2 r4 r5
  exact ⟨_, C_X11_copy hp, fun r s1 h1 => ⟨_, C_X12_copy h1, fun _ t h2 => ⟨h2.1, hg t h2.2⟩⟩⟩
theorem K_write {v1 v2 : Int} {s : Sto} (h : Rel s) : ∃ QC1 : Int → Sto → Prop, sr_C yX11_write cX11_write 5 (some .int) 4 [vR 0, vI v1, vI v2] s QC1 ∧ ∀ r s1, QC1 r s1 → ∃ QC2 : Int → Sto → Prop, sr_C yX12_write cX12_write 5 (some .int) 6 [vR 69, vI v1, vI v2] s1 QC2 ∧ ∀ r2 s2, QC2 r2 s2 → r2 = r ∧ Rel s2 := by
  exact ⟨_, C_X11_write (R_write (v1 := v1) (v2 := v2) h), fun r s1 h1 => ⟨_, C_X12_write h1, fun _ _ h2 => h2⟩⟩
theorem K_count {v1 : Int} {s : Sto} (h : Rel s) : ∃ QC1 : Int → Sto → Prop, sr_C yX11_count cX11_count 2 (some .int) 4 [vR 0, vI v1] s QC1 ∧ ∀ r s1, QC1 r s1 → ∃ QC2 : Int → Sto → Prop, sr_C yX12_count cX12_count 2 (some .int) 6 [vR 69, vI v1] s1 QC2 ∧ ∀ r2 s2, QC2 r2 s2 → r2 = r ∧ Rel s2 := by
  exact ⟨_, C_X11_count (R_count (v1 := v1) h), fun r s1 h1 => ⟨_, C_X12_count h1, fun _ _ h2 => h2⟩⟩
theorem K_digest {s : Sto} (h : Rel s) : ∃ QC1 : Int → Sto → Prop, sr_C yX11_digest cX11_digest 4 (some .long) 7 [vR 0] s QC1 ∧ ∀ r s1, QC1 r s1 → ∃ QC2 : Int → Sto → Prop, sr_C yX12_digest cX12_digest 4 (some .long) 8 [vR 69] s1 QC2 ∧ ∀ r2 s2, QC2 r2 s2 → r2 = r ∧ Rel s2 := by
  exact ⟨_, C_X11_digest (R_digest h), fun r s1 h1 => ⟨_, C_X12_digest h1, fun _ _ h2 => h2⟩⟩
theorem case_0 {p : Program} {l : Launch} {e : Env} {s : State} {m : MethodId} {below : List Frame} {meth : Method} {c : Code} {b L : Nat} {xs : Nat → Int32} {dC : Nat → ClassId} {dI : Nat → Nat → Nat} {ad : Nat → Nat} {ca : Nat → ClassId} {σ : Sto} {n : Int} (E : lj_E p s m c b L xs dC dI ad ca) (h : Rel σ) (hb : 0 ≤ n ∧ n + 6 ≤ (L : Int)) (kk : ∀ σ2, Rel σ2 → lj_G p l e s m below meth c b dC dI ad ca 1427 [(3, vI n), (2, vR 69), (1, vR 0), (0, vR 90)] [] σ2) : lj_G p l e s m below meth c b dC dI ad ca 212 [(3, vI n), (2, vR 69), (1, vR 0), (0, vR 90)] [] σ := by
  obtain ⟨QC1, h1, h2⟩ := K_type (v1 := xI xs (n + 1)) (v2 := xI xs (n + 2)) h
  refine lj_aload_n (pc' := 213) E dL_law_212 rfl rfl ?_
  refine lj_arg (pc' := 218) E dL_law_213 dL_law_214 dL_law_215 dL_law_216 dL_law_217 rfl rfl rfl (by decide) hb ?_
  refine lj_arg (pc' := 223) E dL_law_218 dL_law_219 dL_law_220 dL_law_221 dL_law_222 rfl rfl rfl (by decide) hb ?_
  refine lj_callVi (pc' := 226) (av := [vI (xI xs (n + 1)), vI (xI xs (n + 2))]) (st := []) E dL_law_223 rfl mv_RL_13 rfl rfl ⟨by decide, by decide⟩ (by simp [sr_wd]) h1 ?_
  intro r σ1 g1
  obtain ⟨QC2, h3, h4⟩ := h2 r σ1 g1
  refine lj_aload_n (pc' := 227) E dL_law_226 rfl rfl ?_
  refine lj_arg (pc' := 232) E dL_law_227 dL_law_228 dL_law_229 dL_law_230 dL_law_231 rfl rfl rfl (by decide) hb ?_
  refine lj_arg (pc' := 237) E dL_law_232 dL_law_233 dL_law_234 dL_law_235 dL_law_236 rfl rfl rfl (by decide) hb ?_
  refine lj_callVi (pc' := 240) (av := [vI (xI xs (n + 1)), vI (xI xs (n + 2))]) (st := [vI r]) E dL_law_237 rfl mv_RL_17 rfl rfl ⟨by decide, by decide⟩ (by simp [sr_wd]) h3 ?_
  intro r2 σ2 g2
  obtain ⟨g3, g4⟩ := h4 r2 σ2 g2
  exact lj_eq (tgt := 1427) g3 E dL_law_240 (by decide) (kk σ2 g4)
theorem case_1 {p : Program} {l : Launch} {e : Env} {s : State} {m : MethodId} {below : List Frame} {meth : Method} {c : Code} {b L : Nat} {xs : Nat → Int32} {dC : Nat → ClassId} {dI : Nat → Nat → Nat} {ad : Nat → Nat} {ca : Nat → ClassId} {σ : Sto} {n : Int} (E : lj_E p s m c b L xs dC dI ad ca) (h : Rel σ) (hb : 0 ≤ n ∧ n + 6 ≤ (L : Int)) (kk : ∀ σ2, Rel σ2 → lj_G p l e s m below meth c b dC dI ad ca 1427 [(3, vI n), (2, vR 69), (1, vR 0), (0, vR 90)] [] σ2) : lj_G p l e s m below meth c b dC dI ad ca 245 [(3, vI n), (2, vR 69), (1, vR 0), (0, vR 90)] [] σ := by
  obtain ⟨QC1, h1, h2⟩ := K_wipe (v1 := xI xs (n + 1)) h
  refine lj_aload_n (pc' := 246) E dL_law_245 rfl rfl ?_
  refine lj_arg (pc' := 251) E dL_law_246 dL_law_247 dL_law_248 dL_law_249 dL_law_250 rfl rfl rfl (by decide) hb ?_
  refine lj_callVi (pc' := 254) (av := [vI (xI xs (n + 1))]) (st := []) E dL_law_251 rfl mv_RL_18 rfl rfl ⟨by decide, by decide⟩ (by simp [sr_wd]) h1 ?_
  intro r σ1 g1
  obtain ⟨QC2, h3, h4⟩ := h2 r σ1 g1
  refine lj_aload_n (pc' := 255) E dL_law_254 rfl rfl ?_
  refine lj_arg (pc' := 260) E dL_law_255 dL_law_256 dL_law_257 dL_law_258 dL_law_259 rfl rfl rfl (by decide) hb ?_
  refine lj_callVi (pc' := 263) (av := [vI (xI xs (n + 1))]) (st := [vI r]) E dL_law_260 rfl mv_RL_22 rfl rfl ⟨by decide, by decide⟩ (by simp [sr_wd]) h3 ?_
  intro r2 σ2 g2
  obtain ⟨g3, g4⟩ := h4 r2 σ2 g2
  exact lj_eq (tgt := 1427) g3 E dL_law_263 (by decide) (kk σ2 g4)
theorem case_2 {p : Program} {l : Launch} {e : Env} {s : State} {m : MethodId} {below : List Frame} {meth : Method} {c : Code} {b L : Nat} {xs : Nat → Int32} {dC : Nat → ClassId} {dI : Nat → Nat → Nat} {ad : Nat → Nat} {ca : Nat → ClassId} {σ : Sto} {n : Int} (E : lj_E p s m c b L xs dC dI ad ca) (h : Rel σ) (hb : 0 ≤ n ∧ n + 6 ≤ (L : Int)) (kk : ∀ σ2, Rel σ2 → lj_G p l e s m below meth c b dC dI ad ca 1427 [(3, vI n), (2, vR 69), (1, vR 0), (0, vR 90)] [] σ2) : lj_G p l e s m below meth c b dC dI ad ca 268 [(3, vI n), (2, vR 69), (1, vR 0), (0, vR 90)] [] σ := by
  obtain ⟨QC1, h1, h2⟩ := K_undo (v1 := xI xs (n + 1)) h
  refine lj_aload_n (pc' := 269) E dL_law_268 rfl rfl ?_
  refine lj_arg (pc' := 274) E dL_law_269 dL_law_270 dL_law_271 dL_law_272 dL_law_273 rfl rfl rfl (by decide) hb ?_
  refine lj_callVi (pc' := 277) (av := [vI (xI xs (n + 1))]) (st := []) E dL_law_274 rfl mv_RL_23 rfl rfl ⟨by decide, by decide⟩ (by simp [sr_wd]) h1 ?_
  intro r σ1 g1
  obtain ⟨QC2, h3, h4⟩ := h2 r σ1 g1
  refine lj_aload_n (pc' := 278) E dL_law_277 rfl rfl ?_
  refine lj_arg (pc' := 283) E dL_law_278 dL_law_279 dL_law_280 dL_law_281 dL_law_282 rfl rfl rfl (by decide) hb ?_
  refine lj_callVi (pc' := 286) (av := [vI (xI xs (n + 1))]) (st := [vI r]) E dL_law_283 rfl mv_RL_26 rfl rfl ⟨by decide, by decide⟩ (by simp [sr_wd]) h3 ?_
  intro r2 σ2 g2
  obtain ⟨g3, g4⟩ := h4 r2 σ2 g2
  exact lj_eq (tgt := 1427) g3 E dL_law_286 (by decide) (kk σ2 g4)
theorem case_3 {p : Program} {l : Launch} {e : Env} {s : State} {m : MethodId} {below : List Frame} {meth : Method} {c : Code} {b L : Nat} {xs : Nat → Int32} {dC : Nat → ClassId} {dI : Nat → Nat → Nat} {ad : Nat → Nat} {ca : Nat → ClassId} {σ : Sto} {n : Int} (E : lj_E p s m c b L xs dC dI ad ca) (h : Rel σ) (hb : 0 ≤ n ∧ n + 6 ≤ (L : Int)) (kk : ∀ σ2, Rel σ2 → lj_G p l e s m below meth c b dC dI ad ca 1427 [(3, vI n), (2, vR 69), (1, vR 0), (0, vR 90)] [] σ2) : lj_G p l e s m below meth c b dC dI ad ca 291 [(3, vI n), (2, vR 69), (1, vR 0), (0, vR 90)] [] σ := by
  obtain ⟨QC1, h1, h2⟩ := K_fault (v1 := xI xs (n + 1)) h
  refine lj_aload_n (pc' := 292) E dL_law_291 rfl rfl ?_
  refine lj_arg (pc' := 297) E dL_law_292 dL_law_293 dL_law_294 dL_law_295 dL_law_296 rfl rfl rfl (by decide) hb ?_
  refine lj_callVi (pc' := 300) (av := [vI (xI xs (n + 1))]) (st := []) E dL_law_297 rfl mv_RL_27 rfl rfl ⟨by decide, by decide⟩ (by simp [sr_wd]) h1 ?_
  intro r σ1 g1
  obtain ⟨QC2, h3, h4⟩ := h2 r σ1 g1
  refine lj_aload_n (pc' := 301) E dL_law_300 rfl rfl ?_
  refine lj_arg (pc' := 306) E dL_law_301 dL_law_302 dL_law_303 dL_law_304 dL_law_305 rfl rfl rfl (by decide) hb ?_
  refine lj_callVi (pc' := 309) (av := [vI (xI xs (n + 1))]) (st := [vI r]) E dL_law_306 rfl mv_RL_30 rfl rfl ⟨by decide, by decide⟩ (by simp [sr_wd]) h3 ?_
  intro r2 σ2 g2
  obtain ⟨g3, g4⟩ := h4 r2 σ2 g2
  exact lj_eq (tgt := 1427) g3 E dL_law_309 (by decide) (kk σ2 g4)
theorem case_4 {p : Program} {l : Launch} {e : Env} {s : State} {m : MethodId} {below : List Frame} {meth : Method} {c : Code} {b L : Nat} {xs : Nat → Int32} {dC : Nat → ClassId} {dI : Nat → Nat → Nat} {ad : Nat → Nat} {ca : Nat → ClassId} {σ : Sto} {n : Int} (E : lj_E p s m c b L xs dC dI ad ca) (h : Rel σ) (hb : 0 ≤ n ∧ n + 6 ≤ (L : Int)) (kk : ∀ σ2, Rel σ2 → lj_G p l e s m below meth c b dC dI ad ca 1427 [(3, vI n), (2, vR 69), (1, vR 0), (0, vR 90)] [] σ2) : lj_G p l e s m below meth c b dC dI ad ca 314 [(3, vI n), (2, vR 69), (1, vR 0), (0, vR 90)] [] σ := by
  obtain ⟨QC1, h1, h2⟩ := K_cell (v1 := xI xs (n + 1)) h
  refine lj_aload_n (pc' := 315) E dL_law_314 rfl rfl ?_
  refine lj_arg (pc' := 320) E dL_law_315 dL_law_316 dL_law_317 dL_law_318 dL_law_319 rfl rfl rfl (by decide) hb ?_
  refine lj_callVi (pc' := 323) (av := [vI (xI xs (n + 1))]) (st := []) E dL_law_320 rfl mv_RL_31 rfl rfl ⟨by decide, by decide⟩ (by simp [sr_wd]) h1 ?_
  intro r σ1 g1
  obtain ⟨QC2, h3, h4⟩ := h2 r σ1 g1
  refine lj_aload_n (pc' := 324) E dL_law_323 rfl rfl ?_
  refine lj_arg (pc' := 329) E dL_law_324 dL_law_325 dL_law_326 dL_law_327 dL_law_328 rfl rfl rfl (by decide) hb ?_
  refine lj_callVi (pc' := 332) (av := [vI (xI xs (n + 1))]) (st := [vI r]) E dL_law_329 rfl mv_RL_34 rfl rfl ⟨by decide, by decide⟩ (by simp [sr_wd]) h3 ?_
  intro r2 σ2 g2
  obtain ⟨g3, g4⟩ := h4 r2 σ2 g2
  exact lj_eq (tgt := 1427) g3 E dL_law_332 (by decide) (kk σ2 g4)
theorem case_5 {p : Program} {l : Launch} {e : Env} {s : State} {m : MethodId} {below : List Frame} {meth : Method} {c : Code} {b L : Nat} {xs : Nat → Int32} {dC : Nat → ClassId} {dI : Nat → Nat → Nat} {ad : Nat → Nat} {ca : Nat → ClassId} {σ : Sto} {n : Int} (E : lj_E p s m c b L xs dC dI ad ca) (h : Rel σ) (hb : 0 ≤ n ∧ n + 6 ≤ (L : Int)) (kk : ∀ σ2, Rel σ2 → lj_G p l e s m below meth c b dC dI ad ca 1427 [(3, vI n), (2, vR 69), (1, vR 0), (0, vR 90)] [] σ2) : lj_G p l e s m below meth c b dC dI ad ca 337 [(3, vI n), (2, vR 69), (1, vR 0), (0, vR 90)] [] σ := by
  obtain ⟨QC1, h1, h2⟩ := K_thing (v1 := xI xs (n + 1)) (v2 := xI xs (n + 2)) h
  refine lj_aload_n (pc' := 338) E dL_law_337 rfl rfl ?_
  refine lj_arg (pc' := 343) E dL_law_338 dL_law_339 dL_law_340 dL_law_341 dL_law_342 rfl rfl rfl (by decide) hb ?_
  refine lj_arg (pc' := 348) E dL_law_343 dL_law_344 dL_law_345 dL_law_346 dL_law_347 rfl rfl rfl (by decide) hb ?_
  refine lj_callVi (pc' := 351) (av := [vI (xI xs (n + 1)), vI (xI xs (n + 2))]) (st := []) E dL_law_348 rfl mv_RL_35 rfl rfl ⟨by decide, by decide⟩ (by simp [sr_wd]) h1 ?_
  intro r σ1 g1
  obtain ⟨QC2, h3, h4⟩ := h2 r σ1 g1
  refine lj_aload_n (pc' := 352) E dL_law_351 rfl rfl ?_
  refine lj_arg (pc' := 357) E dL_law_352 dL_law_353 dL_law_354 dL_law_355 dL_law_356 rfl rfl rfl (by decide) hb ?_
  refine lj_arg (pc' := 362) E dL_law_357 dL_law_358 dL_law_359 dL_law_360 dL_law_361 rfl rfl rfl (by decide) hb ?_
  refine lj_callVi (pc' := 365) (av := [vI (xI xs (n + 1)), vI (xI xs (n + 2))]) (st := [vI r]) E dL_law_362 rfl mv_RL_38 rfl rfl ⟨by decide, by decide⟩ (by simp [sr_wd]) h3 ?_
  intro r2 σ2 g2
  obtain ⟨g3, g4⟩ := h4 r2 σ2 g2
  exact lj_eq (tgt := 1427) g3 E dL_law_365 (by decide) (kk σ2 g4)
theorem case_6 {p : Program} {l : Launch} {e : Env} {s : State} {m : MethodId} {below : List Frame} {meth : Method} {c : Code} {b L : Nat} {xs : Nat → Int32} {dC : Nat → ClassId} {dI : Nat → Nat → Nat} {ad : Nat → Nat} {ca : Nat → ClassId} {σ : Sto} {n : Int} (E : lj_E p s m c b L xs dC dI ad ca) (h : Rel σ) (hb : 0 ≤ n ∧ n + 6 ≤ (L : Int)) (kk : ∀ σ2, Rel σ2 → lj_G p l e s m below meth c b dC dI ad ca 1427 [(3, vI n), (2, vR 69), (1, vR 0), (0, vR 90)] [] σ2) : lj_G p l e s m below meth c b dC dI ad ca 370 [(3, vI n), (2, vR 69), (1, vR 0), (0, vR 90)] [] σ := by
  obtain ⟨QC1, h1, h2⟩ := K_wind (v1 := xI xs (n + 1)) h
  refine lj_aload_n (pc' := 371) E dL_law_370 rfl rfl ?_
  refine lj_arg (pc' := 376) E dL_law_371 dL_law_372 dL_law_373 dL_law_374 dL_law_375 rfl rfl rfl (by decide) hb ?_
  refine lj_callVi (pc' := 379) (av := [vI (xI xs (n + 1))]) (st := []) E dL_law_376 rfl mv_RL_39 rfl rfl ⟨by decide, by decide⟩ (by simp [sr_wd]) h1 ?_
  intro r σ1 g1
  obtain ⟨QC2, h3, h4⟩ := h2 r σ1 g1
  refine lj_aload_n (pc' := 380) E dL_law_379 rfl rfl ?_
  refine lj_arg (pc' := 385) E dL_law_380 dL_law_381 dL_law_382 dL_law_383 dL_law_384 rfl rfl rfl (by decide) hb ?_
  refine lj_callVi (pc' := 388) (av := [vI (xI xs (n + 1))]) (st := [vI r]) E dL_law_385 rfl mv_RL_42 rfl rfl ⟨by decide, by decide⟩ (by simp [sr_wd]) h3 ?_
  intro r2 σ2 g2
  obtain ⟨g3, g4⟩ := h4 r2 σ2 g2
  exact lj_eq (tgt := 1427) g3 E dL_law_388 (by decide) (kk σ2 g4)
theorem case_7 {p : Program} {l : Launch} {e : Env} {s : State} {m : MethodId} {below : List Frame} {meth : Method} {c : Code} {b L : Nat} {xs : Nat → Int32} {dC : Nat → ClassId} {dI : Nat → Nat → Nat} {ad : Nat → Nat} {ca : Nat → ClassId} {σ : Sto} {n : Int} (E : lj_E p s m c b L xs dC dI ad ca) (h : Rel σ) (hb : 0 ≤ n ∧ n + 6 ≤ (L : Int)) (kk : ∀ σ2, Rel σ2 → lj_G p l e s m below meth c b dC dI ad ca 1427 [(3, vI n), (2, vR 69), (1, vR 0), (0, vR 90)] [] σ2) : lj_G p l e s m below meth c b dC dI ad ca 393 [(3, vI n), (2, vR 69), (1, vR 0), (0, vR 90)] [] σ := by
  obtain ⟨QC1, h1, h2⟩ := K_widens (v1 := xI xs (n + 1)) h
  refine lj_aload_n (pc' := 394) E dL_law_393 rfl rfl ?_
  refine lj_arg (pc' := 399) E dL_law_394 dL_law_395 dL_law_396 dL_law_397 dL_law_398 rfl rfl rfl (by decide) hb ?_
  refine lj_callVi (pc' := 402) (av := [vI (xI xs (n + 1))]) (st := []) E dL_law_399 rfl mv_RL_43 rfl rfl ⟨by decide, by decide⟩ (by simp [sr_wd]) h1 ?_
  intro r σ1 g1
  obtain ⟨QC2, h3, h4⟩ := h2 r σ1 g1
  refine lj_aload_n (pc' := 403) E dL_law_402 rfl rfl ?_
  refine lj_arg (pc' := 408) E dL_law_403 dL_law_404 dL_law_405 dL_law_406 dL_law_407 rfl rfl rfl (by decide) hb ?_
  refine lj_callVi (pc' := 411) (av := [vI (xI xs (n + 1))]) (st := [vI r]) E dL_law_408 rfl mv_RL_46 rfl rfl ⟨by decide, by decide⟩ (by simp [sr_wd]) h3 ?_
  intro r2 σ2 g2
  obtain ⟨g3, g4⟩ := h4 r2 σ2 g2
  exact lj_eq (tgt := 1427) g3 E dL_law_411 (by decide) (kk σ2 g4)
theorem case_8 {p : Program} {l : Launch} {e : Env} {s : State} {m : MethodId} {below : List Frame} {meth : Method} {c : Code} {b L : Nat} {xs : Nat → Int32} {dC : Nat → ClassId} {dI : Nat → Nat → Nat} {ad : Nat → Nat} {ca : Nat → ClassId} {σ : Sto} {n : Int} (E : lj_E p s m c b L xs dC dI ad ca) (h : Rel σ) (hb : 0 ≤ n ∧ n + 6 ≤ (L : Int)) (kk : ∀ σ2, Rel σ2 → lj_G p l e s m below meth c b dC dI ad ca 1427 [(3, vI n), (2, vR 69), (1, vR 0), (0, vR 90)] [] σ2) : lj_G p l e s m below meth c b dC dI ad ca 416 [(3, vI n), (2, vR 69), (1, vR 0), (0, vR 90)] [] σ := by
  obtain ⟨QC1, h1, h2⟩ := K_blow (v1 := xI xs (n + 1)) (v2 := xI xs (n + 2)) (v3 := xI xs (n + 3)) (v4 := xI xs (n + 4)) (v5 := xI xs (n + 5)) h
  refine lj_aload_n (pc' := 417) E dL_law_416 rfl rfl ?_
  refine lj_arg (pc' := 422) E dL_law_417 dL_law_418 dL_law_419 dL_law_420 dL_law_421 rfl rfl rfl (by decide) hb ?_
  refine lj_arg (pc' := 427) E dL_law_422 dL_law_423 dL_law_424 dL_law_425 dL_law_426 rfl rfl rfl (by decide) hb ?_
  refine lj_arg (pc' := 432) E dL_law_427 dL_law_428 dL_law_429 dL_law_430 dL_law_431 rfl rfl rfl (by decide) hb ?_
  refine lj_arg (pc' := 437) E dL_law_432 dL_law_433 dL_law_434 dL_law_435 dL_law_436 rfl rfl rfl (by decide) hb ?_
  refine lj_arg (pc' := 442) E dL_law_437 dL_law_438 dL_law_439 dL_law_440 dL_law_441 rfl rfl rfl (by decide) hb ?_
  refine lj_callVi (pc' := 445) (av := [vI (xI xs (n + 1)), vI (xI xs (n + 2)), vI (xI xs (n + 3)), vI (xI xs (n + 4)), vI (xI xs (n + 5))]) (st := []) E dL_law_442 rfl mv_RL_47 rfl rfl ⟨by decide, by decide⟩ (by simp [sr_wd]) h1 ?_
  intro r σ1 g1
  obtain ⟨QC2, h3, h4⟩ := h2 r σ1 g1
  refine lj_aload_n (pc' := 446) E dL_law_445 rfl rfl ?_
  refine lj_arg (pc' := 451) E dL_law_446 dL_law_447 dL_law_448 dL_law_449 dL_law_450 rfl rfl rfl (by decide) hb ?_
  refine lj_arg (pc' := 456) E dL_law_451 dL_law_452 dL_law_453 dL_law_454 dL_law_455 rfl rfl rfl (by decide) hb ?_
  refine lj_arg (pc' := 461) E dL_law_456 dL_law_457 dL_law_458 dL_law_459 dL_law_460 rfl rfl rfl (by decide) hb ?_
  refine lj_arg (pc' := 466) E dL_law_461 dL_law_462 dL_law_463 dL_law_464 dL_law_465 rfl rfl rfl (by decide) hb ?_
  refine lj_arg (pc' := 471) E dL_law_466 dL_law_467 dL_law_468 dL_law_469 dL_law_470 rfl rfl rfl (by decide) hb ?_
  refine lj_callVi (pc' := 474) (av := [vI (xI xs (n + 1)), vI (xI xs (n + 2)), vI (xI xs (n + 3)), vI (xI xs (n + 4)), vI (xI xs (n + 5))]) (st := [vI r]) E dL_law_471 rfl mv_RL_51 rfl rfl ⟨by decide, by decide⟩ (by simp [sr_wd]) h3 ?_
  intro r2 σ2 g2
  obtain ⟨g3, g4⟩ := h4 r2 σ2 g2
  exact lj_eq (tgt := 1427) g3 E dL_law_474 (by decide) (kk σ2 g4)
theorem case_9 {p : Program} {l : Launch} {e : Env} {s : State} {m : MethodId} {below : List Frame} {meth : Method} {c : Code} {b L : Nat} {xs : Nat → Int32} {dC : Nat → ClassId} {dI : Nat → Nat → Nat} {ad : Nat → Nat} {ca : Nat → ClassId} {σ : Sto} {n : Int} (E : lj_E p s m c b L xs dC dI ad ca) (h : Rel σ) (hb : 0 ≤ n ∧ n + 6 ≤ (L : Int)) (kk : ∀ σ2, Rel σ2 → lj_G p l e s m below meth c b dC dI ad ca 1427 [(3, vI n), (2, vR 69), (1, vR 0), (0, vR 90)] [] σ2) : lj_G p l e s m below meth c b dC dI ad ca 479 [(3, vI n), (2, vR 69), (1, vR 0), (0, vR 90)] [] σ := by
  obtain ⟨QC1, h1, h2⟩ := K_ring (v1 := xI xs (n + 1)) (v2 := xI xs (n + 2)) h
  refine lj_aload_n (pc' := 480) E dL_law_479 rfl rfl ?_
  refine lj_arg (pc' := 485) E dL_law_480 dL_law_481 dL_law_482 dL_law_483 dL_law_484 rfl rfl rfl (by decide) hb ?_
  refine lj_arg (pc' := 490) E dL_law_485 dL_law_486 dL_law_487 dL_law_488 dL_law_489 rfl rfl rfl (by decide) hb ?_
  refine lj_callVi (pc' := 493) (av := [vI (xI xs (n + 1)), vI (xI xs (n + 2))]) (st := []) E dL_law_490 rfl mv_RL_52 rfl rfl ⟨by decide, by decide⟩ (by simp [sr_wd]) h1 ?_
  intro r σ1 g1
  obtain ⟨QC2, h3, h4⟩ := h2 r σ1 g1
  refine lj_aload_n (pc' := 494) E dL_law_493 rfl rfl ?_
  refine lj_arg (pc' := 499) E dL_law_494 dL_law_495 dL_law_496 dL_law_497 dL_law_498 rfl rfl rfl (by decide) hb ?_
  refine lj_arg (pc' := 504) E dL_law_499 dL_law_500 dL_law_501 dL_law_502 dL_law_503 rfl rfl rfl (by decide) hb ?_
  refine lj_callVi (pc' := 507) (av := [vI (xI xs (n + 1)), vI (xI xs (n + 2))]) (st := [vI r]) E dL_law_504 rfl mv_RL_55 rfl rfl ⟨by decide, by decide⟩ (by simp [sr_wd]) h3 ?_
  intro r2 σ2 g2
  obtain ⟨g3, g4⟩ := h4 r2 σ2 g2
  exact lj_eq (tgt := 1427) g3 E dL_law_507 (by decide) (kk σ2 g4)
theorem case_10 {p : Program} {l : Launch} {e : Env} {s : State} {m : MethodId} {below : List Frame} {meth : Method} {c : Code} {b L : Nat} {xs : Nat → Int32} {dC : Nat → ClassId} {dI : Nat → Nat → Nat} {ad : Nat → Nat} {ca : Nat → ClassId} {σ : Sto} {n : Int} (E : lj_E p s m c b L xs dC dI ad ca) (h : Rel σ) (hb : 0 ≤ n ∧ n + 6 ≤ (L : Int)) (kk : ∀ σ2, Rel σ2 → lj_G p l e s m below meth c b dC dI ad ca 1427 [(3, vI n), (2, vR 69), (1, vR 0), (0, vR 90)] [] σ2) : lj_G p l e s m below meth c b dC dI ad ca 512 [(3, vI n), (2, vR 69), (1, vR 0), (0, vR 90)] [] σ := by
  obtain ⟨QC1, h1, h2⟩ := K_back h
  refine lj_aload_n (pc' := 513) E dL_law_512 rfl rfl ?_
  refine lj_callVi (pc' := 516) (av := []) (st := []) E dL_law_513 rfl mv_RL_56 rfl rfl ⟨by decide, by decide⟩ (by simp [sr_wd]) h1 ?_
  intro r σ1 g1
  obtain ⟨QC2, h3, h4⟩ := h2 r σ1 g1
  refine lj_aload_n (pc' := 517) E dL_law_516 rfl rfl ?_
  refine lj_callVi (pc' := 520) (av := []) (st := [vI r]) E dL_law_517 rfl mv_RL_60 rfl rfl ⟨by decide, by decide⟩ (by simp [sr_wd]) h3 ?_
  intro r2 σ2 g2
  obtain ⟨g3, g4⟩ := h4 r2 σ2 g2
  exact lj_eq (tgt := 1427) g3 E dL_law_520 (by decide) (kk σ2 g4)
theorem case_11 {p : Program} {l : Launch} {e : Env} {s : State} {m : MethodId} {below : List Frame} {meth : Method} {c : Code} {b L : Nat} {xs : Nat → Int32} {dC : Nat → ClassId} {dI : Nat → Nat → Nat} {ad : Nat → Nat} {ca : Nat → ClassId} {σ : Sto} {n : Int} (E : lj_E p s m c b L xs dC dI ad ca) (h : Rel σ) (hb : 0 ≤ n ∧ n + 6 ≤ (L : Int)) (kk : ∀ σ2, Rel σ2 → lj_G p l e s m below meth c b dC dI ad ca 1427 [(3, vI n), (2, vR 69), (1, vR 0), (0, vR 90)] [] σ2) : lj_G p l e s m below meth c b dC dI ad ca 525 [(3, vI n), (2, vR 69), (1, vR 0), (0, vR 90)] [] σ := by
  obtain ⟨QC1, h1, h2⟩ := K_read (v1 := xI xs (n + 1)) h
  refine lj_aload_n (pc' := 526) E dL_law_525 rfl rfl ?_
  refine lj_arg (pc' := 531) E dL_law_526 dL_law_527 dL_law_528 dL_law_529 dL_law_530 rfl rfl rfl (by decide) hb ?_
  refine lj_callVi (pc' := 534) (av := [vI (xI xs (n + 1))]) (st := []) E dL_law_531 rfl mv_RL_61 rfl rfl ⟨by decide, by decide⟩ (by simp [sr_wd]) h1 ?_
  intro r σ1 g1
  obtain ⟨QC2, h3, h4⟩ := h2 r σ1 g1
  refine lj_aload_n (pc' := 535) E dL_law_534 rfl rfl ?_
  refine lj_arg (pc' := 540) E dL_law_535 dL_law_536 dL_law_537 dL_law_538 dL_law_539 rfl rfl rfl (by decide) hb ?_
  refine lj_callVi (pc' := 543) (av := [vI (xI xs (n + 1))]) (st := [vI r]) E dL_law_540 rfl mv_RL_64 rfl rfl ⟨by decide, by decide⟩ (by simp [sr_wd]) h3 ?_
  intro r2 σ2 g2
  obtain ⟨g3, g4⟩ := h4 r2 σ2 g2
  exact lj_eq (tgt := 1427) g3 E dL_law_543 (by decide) (kk σ2 g4)
theorem case_12 {p : Program} {l : Launch} {e : Env} {s : State} {m : MethodId} {below : List Frame} {meth : Method} {c : Code} {b L : Nat} {xs : Nat → Int32} {dC : Nat → ClassId} {dI : Nat → Nat → Nat} {ad : Nat → Nat} {ca : Nat → ClassId} {σ : Sto} {n : Int} (E : lj_E p s m c b L xs dC dI ad ca) (h : Rel σ) (hb : 0 ≤ n ∧ n + 6 ≤ (L : Int)) (kk : ∀ σ2, Rel σ2 → lj_G p l e s m below meth c b dC dI ad ca 1427 [(3, vI n), (2, vR 69), (1, vR 0), (0, vR 90)] [] σ2) : lj_G p l e s m below meth c b dC dI ad ca 548 [(3, vI n), (2, vR 69), (1, vR 0), (0, vR 90)] [] σ := by
  obtain ⟨QC1, h1, h2⟩ := K_at (v1 := xI xs (n + 1)) (v2 := xI xs (n + 2)) (v3 := xI xs (n + 3)) h
  refine lj_aload_n (pc' := 549) E dL_law_548 rfl rfl ?_
  refine lj_arg (pc' := 554) E dL_law_549 dL_law_550 dL_law_551 dL_law_552 dL_law_553 rfl rfl rfl (by decide) hb ?_
  refine lj_arg (pc' := 559) E dL_law_554 dL_law_555 dL_law_556 dL_law_557 dL_law_558 rfl rfl rfl (by decide) hb ?_
  refine lj_arg (pc' := 564) E dL_law_559 dL_law_560 dL_law_561 dL_law_562 dL_law_563 rfl rfl rfl (by decide) hb ?_
  refine lj_callVi (pc' := 567) (av := [vI (xI xs (n + 1)), vI (xI xs (n + 2)), vI (xI xs (n + 3))]) (st := []) E dL_law_564 rfl mv_RL_65 rfl rfl ⟨by decide, by decide⟩ (by simp [sr_wd]) h1 ?_
  intro r σ1 g1
  obtain ⟨QC2, h3, h4⟩ := h2 r σ1 g1
  refine lj_aload_n (pc' := 568) E dL_law_567 rfl rfl ?_
  refine lj_arg (pc' := 573) E dL_law_568 dL_law_569 dL_law_570 dL_law_571 dL_law_572 rfl rfl rfl (by decide) hb ?_
  refine lj_arg (pc' := 578) E dL_law_573 dL_law_574 dL_law_575 dL_law_576 dL_law_577 rfl rfl rfl (by decide) hb ?_
  refine lj_arg (pc' := 583) E dL_law_578 dL_law_579 dL_law_580 dL_law_581 dL_law_582 rfl rfl rfl (by decide) hb ?_
  refine lj_callVi (pc' := 586) (av := [vI (xI xs (n + 1)), vI (xI xs (n + 2)), vI (xI xs (n + 3))]) (st := [vI r]) E dL_law_583 rfl mv_RL_69 rfl rfl ⟨by decide, by decide⟩ (by simp [sr_wd]) h3 ?_
  intro r2 σ2 g2
  obtain ⟨g3, g4⟩ := h4 r2 σ2 g2
  exact lj_eq (tgt := 1427) g3 E dL_law_586 (by decide) (kk σ2 g4)
theorem case_13 {p : Program} {l : Launch} {e : Env} {s : State} {m : MethodId} {below : List Frame} {meth : Method} {c : Code} {b L : Nat} {xs : Nat → Int32} {dC : Nat → ClassId} {dI : Nat → Nat → Nat} {ad : Nat → Nat} {ca : Nat → ClassId} {σ : Sto} {n : Int} (E : lj_E p s m c b L xs dC dI ad ca) (h : Rel σ) (hb : 0 ≤ n ∧ n + 6 ≤ (L : Int)) (kk : ∀ σ2, Rel σ2 → lj_G p l e s m below meth c b dC dI ad ca 1427 [(3, vI n), (2, vR 69), (1, vR 0), (0, vR 90)] [] σ2) : lj_G p l e s m below meth c b dC dI ad ca 591 [(3, vI n), (2, vR 69), (1, vR 0), (0, vR 90)] [] σ := by
  obtain ⟨QC1, h1, h2⟩ := K_bound (v1 := xI xs (n + 1)) (v2 := xI xs (n + 2)) h
  refine lj_aload_n (pc' := 592) E dL_law_591 rfl rfl ?_
  refine lj_arg (pc' := 597) E dL_law_592 dL_law_593 dL_law_594 dL_law_595 dL_law_596 rfl rfl rfl (by decide) hb ?_
  refine lj_arg (pc' := 602) E dL_law_597 dL_law_598 dL_law_599 dL_law_600 dL_law_601 rfl rfl rfl (by decide) hb ?_
  refine lj_callVi (pc' := 605) (av := [vI (xI xs (n + 1)), vI (xI xs (n + 2))]) (st := []) E dL_law_602 rfl mv_RL_70 rfl rfl ⟨by decide, by decide⟩ (by simp [sr_wd]) h1 ?_
  intro r σ1 g1
  obtain ⟨QC2, h3, h4⟩ := h2 r σ1 g1
  refine lj_aload_n (pc' := 606) E dL_law_605 rfl rfl ?_
  refine lj_arg (pc' := 611) E dL_law_606 dL_law_607 dL_law_608 dL_law_609 dL_law_610 rfl rfl rfl (by decide) hb ?_
  refine lj_arg (pc' := 616) E dL_law_611 dL_law_612 dL_law_613 dL_law_614 dL_law_615 rfl rfl rfl (by decide) hb ?_
  refine lj_callVi (pc' := 619) (av := [vI (xI xs (n + 1)), vI (xI xs (n + 2))]) (st := [vI r]) E dL_law_616 rfl mv_RL_73 rfl rfl ⟨by decide, by decide⟩ (by simp [sr_wd]) h3 ?_
  intro r2 σ2 g2
  obtain ⟨g3, g4⟩ := h4 r2 σ2 g2
  exact lj_eq (tgt := 1427) g3 E dL_law_619 (by decide) (kk σ2 g4)
theorem case_14 {p : Program} {l : Launch} {e : Env} {s : State} {m : MethodId} {below : List Frame} {meth : Method} {c : Code} {b L : Nat} {xs : Nat → Int32} {dC : Nat → ClassId} {dI : Nat → Nat → Nat} {ad : Nat → Nat} {ca : Nat → ClassId} {σ : Sto} {n : Int} (E : lj_E p s m c b L xs dC dI ad ca) (h : Rel σ) (hb : 0 ≤ n ∧ n + 6 ≤ (L : Int)) (kk : ∀ σ2, Rel σ2 → lj_G p l e s m below meth c b dC dI ad ca 1427 [(3, vI n), (2, vR 69), (1, vR 0), (0, vR 90)] [] σ2) : lj_G p l e s m below meth c b dC dI ad ca 624 [(3, vI n), (2, vR 69), (1, vR 0), (0, vR 90)] [] σ := by
  obtain ⟨QC1, h1, h2⟩ := K_wed (v1 := xI xs (n + 1)) (v2 := xI xs (n + 2)) h
  refine lj_aload_n (pc' := 625) E dL_law_624 rfl rfl ?_
  refine lj_arg (pc' := 630) E dL_law_625 dL_law_626 dL_law_627 dL_law_628 dL_law_629 rfl rfl rfl (by decide) hb ?_
  refine lj_arg (pc' := 635) E dL_law_630 dL_law_631 dL_law_632 dL_law_633 dL_law_634 rfl rfl rfl (by decide) hb ?_
  refine lj_callVi (pc' := 638) (av := [vI (xI xs (n + 1)), vI (xI xs (n + 2))]) (st := []) E dL_law_635 rfl mv_RL_74 rfl rfl ⟨by decide, by decide⟩ (by simp [sr_wd]) h1 ?_
  intro r σ1 g1
  obtain ⟨QC2, h3, h4⟩ := h2 r σ1 g1
  refine lj_aload_n (pc' := 639) E dL_law_638 rfl rfl ?_
  refine lj_arg (pc' := 644) E dL_law_639 dL_law_640 dL_law_641 dL_law_642 dL_law_643 rfl rfl rfl (by decide) hb ?_
  refine lj_arg (pc' := 649) E dL_law_644 dL_law_645 dL_law_646 dL_law_647 dL_law_648 rfl rfl rfl (by decide) hb ?_
  refine lj_callVi (pc' := 652) (av := [vI (xI xs (n + 1)), vI (xI xs (n + 2))]) (st := [vI r]) E dL_law_649 rfl mv_RL_77 rfl rfl ⟨by decide, by decide⟩ (by simp [sr_wd]) h3 ?_
  intro r2 σ2 g2
  obtain ⟨g3, g4⟩ := h4 r2 σ2 g2
  exact lj_eq (tgt := 1427) g3 E dL_law_652 (by decide) (kk σ2 g4)
theorem case_15 {p : Program} {l : Launch} {e : Env} {s : State} {m : MethodId} {below : List Frame} {meth : Method} {c : Code} {b L : Nat} {xs : Nat → Int32} {dC : Nat → ClassId} {dI : Nat → Nat → Nat} {ad : Nat → Nat} {ca : Nat → ClassId} {σ : Sto} {n : Int} (E : lj_E p s m c b L xs dC dI ad ca) (h : Rel σ) (hb : 0 ≤ n ∧ n + 6 ≤ (L : Int)) (kk : ∀ σ2, Rel σ2 → lj_G p l e s m below meth c b dC dI ad ca 1427 [(3, vI n), (2, vR 69), (1, vR 0), (0, vR 90)] [] σ2) : lj_G p l e s m below meth c b dC dI ad ca 657 [(3, vI n), (2, vR 69), (1, vR 0), (0, vR 90)] [] σ := by
  obtain ⟨QC1, h1, h2⟩ := K_throughs (v1 := xI xs (n + 1)) h
  refine lj_aload_n (pc' := 658) E dL_law_657 rfl rfl ?_
  refine lj_arg (pc' := 663) E dL_law_658 dL_law_659 dL_law_660 dL_law_661 dL_law_662 rfl rfl rfl (by decide) hb ?_
  refine lj_callVi (pc' := 666) (av := [vI (xI xs (n + 1))]) (st := []) E dL_law_663 rfl mv_RL_78 rfl rfl ⟨by decide, by decide⟩ (by simp [sr_wd]) h1 ?_
  intro r σ1 g1
  obtain ⟨QC2, h3, h4⟩ := h2 r σ1 g1
  refine lj_aload_n (pc' := 667) E dL_law_666 rfl rfl ?_
  refine lj_arg (pc' := 672) E dL_law_667 dL_law_668 dL_law_669 dL_law_670 dL_law_671 rfl rfl rfl (by decide) hb ?_
  refine lj_callVi (pc' := 675) (av := [vI (xI xs (n + 1))]) (st := [vI r]) E dL_law_672 rfl mv_RL_81 rfl rfl ⟨by decide, by decide⟩ (by simp [sr_wd]) h3 ?_
  intro r2 σ2 g2
  obtain ⟨g3, g4⟩ := h4 r2 σ2 g2
  exact lj_eq (tgt := 1427) g3 E dL_law_675 (by decide) (kk σ2 g4)
theorem case_16 {p : Program} {l : Launch} {e : Env} {s : State} {m : MethodId} {below : List Frame} {meth : Method} {c : Code} {b L : Nat} {xs : Nat → Int32} {dC : Nat → ClassId} {dI : Nat → Nat → Nat} {ad : Nat → Nat} {ca : Nat → ClassId} {σ : Sto} {n : Int} (E : lj_E p s m c b L xs dC dI ad ca) (h : Rel σ) (hb : 0 ≤ n ∧ n + 6 ≤ (L : Int)) (kk : ∀ σ2, Rel σ2 → lj_G p l e s m below meth c b dC dI ad ca 1427 [(3, vI n), (2, vR 69), (1, vR 0), (0, vR 90)] [] σ2) : lj_G p l e s m below meth c b dC dI ad ca 680 [(3, vI n), (2, vR 69), (1, vR 0), (0, vR 90)] [] σ := by
  obtain ⟨QC1, h1, h2⟩ := K_missed h
  refine lj_aload_n (pc' := 681) E dL_law_680 rfl rfl ?_
  refine lj_callVi (pc' := 684) (av := []) (st := []) E dL_law_681 rfl mv_RL_82 rfl rfl ⟨by decide, by decide⟩ (by simp [sr_wd]) h1 ?_
  intro r σ1 g1
  obtain ⟨QC2, h3, h4⟩ := h2 r σ1 g1
  refine lj_aload_n (pc' := 685) E dL_law_684 rfl rfl ?_
  refine lj_callVi (pc' := 688) (av := []) (st := [vI r]) E dL_law_685 rfl mv_RL_85 rfl rfl ⟨by decide, by decide⟩ (by simp [sr_wd]) h3 ?_
  intro r2 σ2 g2
  obtain ⟨g3, g4⟩ := h4 r2 σ2 g2
  exact lj_eq (tgt := 1427) g3 E dL_law_688 (by decide) (kk σ2 g4)
theorem case_17 {p : Program} {l : Launch} {e : Env} {s : State} {m : MethodId} {below : List Frame} {meth : Method} {c : Code} {b L : Nat} {xs : Nat → Int32} {dC : Nat → ClassId} {dI : Nat → Nat → Nat} {ad : Nat → Nat} {ca : Nat → ClassId} {σ : Sto} {n : Int} (E : lj_E p s m c b L xs dC dI ad ca) (h : Rel σ) (hb : 0 ≤ n ∧ n + 6 ≤ (L : Int)) (kk : ∀ σ2, Rel σ2 → lj_G p l e s m below meth c b dC dI ad ca 1427 [(3, vI n), (2, vR 69), (1, vR 0), (0, vR 90)] [] σ2) : lj_G p l e s m below meth c b dC dI ad ca 693 [(3, vI n), (2, vR 69), (1, vR 0), (0, vR 90)] [] σ := by
  obtain ⟨QC1, h1, h2⟩ := K_richest h
  refine lj_aload_n (pc' := 694) E dL_law_693 rfl rfl ?_
  refine lj_callVi (pc' := 697) (av := []) (st := []) E dL_law_694 rfl mv_RL_86 rfl rfl ⟨by decide, by decide⟩ (by simp [sr_wd]) h1 ?_
  intro r σ1 g1
  obtain ⟨QC2, h3, h4⟩ := h2 r σ1 g1
  refine lj_aload_n (pc' := 698) E dL_law_697 rfl rfl ?_
  refine lj_callVi (pc' := 701) (av := []) (st := [vI r]) E dL_law_698 rfl mv_RL_89 rfl rfl ⟨by decide, by decide⟩ (by simp [sr_wd]) h3 ?_
  intro r2 σ2 g2
  obtain ⟨g3, g4⟩ := h4 r2 σ2 g2
  exact lj_eq (tgt := 1427) g3 E dL_law_701 (by decide) (kk σ2 g4)
theorem case_18 {p : Program} {l : Launch} {e : Env} {s : State} {m : MethodId} {below : List Frame} {meth : Method} {c : Code} {b L : Nat} {xs : Nat → Int32} {dC : Nat → ClassId} {dI : Nat → Nat → Nat} {ad : Nat → Nat} {ca : Nat → ClassId} {σ : Sto} {n : Int} (E : lj_E p s m c b L xs dC dI ad ca) (h : Rel σ) (hb : 0 ≤ n ∧ n + 6 ≤ (L : Int)) (kk : ∀ σ2, Rel σ2 → lj_G p l e s m below meth c b dC dI ad ca 1427 [(3, vI n), (2, vR 69), (1, vR 0), (0, vR 90)] [] σ2) : lj_G p l e s m below meth c b dC dI ad ca 706 [(3, vI n), (2, vR 69), (1, vR 0), (0, vR 90)] [] σ := by
  obtain ⟨QC1, h1, h2⟩ := K_lonely h
  refine lj_aload_n (pc' := 707) E dL_law_706 rfl rfl ?_
  refine lj_callVi (pc' := 710) (av := []) (st := []) E dL_law_707 rfl mv_RL_90 rfl rfl ⟨by decide, by decide⟩ (by simp [sr_wd]) h1 ?_
  intro r σ1 g1
  obtain ⟨QC2, h3, h4⟩ := h2 r σ1 g1
  refine lj_aload_n (pc' := 711) E dL_law_710 rfl rfl ?_
  refine lj_callVi (pc' := 714) (av := []) (st := [vI r]) E dL_law_711 rfl mv_RL_93 rfl rfl ⟨by decide, by decide⟩ (by simp [sr_wd]) h3 ?_
  intro r2 σ2 g2
  obtain ⟨g3, g4⟩ := h4 r2 σ2 g2
  exact lj_eq (tgt := 1427) g3 E dL_law_714 (by decide) (kk σ2 g4)
theorem case_19 {p : Program} {l : Launch} {e : Env} {s : State} {m : MethodId} {below : List Frame} {meth : Method} {c : Code} {b L : Nat} {xs : Nat → Int32} {dC : Nat → ClassId} {dI : Nat → Nat → Nat} {ad : Nat → Nat} {ca : Nat → ClassId} {σ : Sto} {n : Int} (E : lj_E p s m c b L xs dC dI ad ca) (h : Rel σ) (hb : 0 ≤ n ∧ n + 6 ≤ (L : Int)) (kk : ∀ σ2, Rel σ2 → lj_G p l e s m below meth c b dC dI ad ca 1427 [(3, vI n), (2, vR 69), (1, vR 0), (0, vR 90)] [] σ2) : lj_G p l e s m below meth c b dC dI ad ca 719 [(3, vI n), (2, vR 69), (1, vR 0), (0, vR 90)] [] σ := by
  obtain ⟨QC1, h1, h2⟩ := K_breath (v1 := xI xs (n + 1)) (v2 := xI xs (n + 2)) h
  refine lj_aload_n (pc' := 720) E dL_law_719 rfl rfl ?_
  refine lj_arg (pc' := 725) E dL_law_720 dL_law_721 dL_law_722 dL_law_723 dL_law_724 rfl rfl rfl (by decide) hb ?_
  refine lj_arg (pc' := 730) E dL_law_725 dL_law_726 dL_law_727 dL_law_728 dL_law_729 rfl rfl rfl (by decide) hb ?_
  refine lj_callVi (pc' := 733) (av := [vI (xI xs (n + 1)), vI (xI xs (n + 2))]) (st := []) E dL_law_730 rfl mv_RL_94 rfl rfl ⟨by decide, by decide⟩ (by simp [sr_wd]) h1 ?_
  intro r σ1 g1
  obtain ⟨QC2, h3, h4⟩ := h2 r σ1 g1
  refine lj_aload_n (pc' := 734) E dL_law_733 rfl rfl ?_
  refine lj_arg (pc' := 739) E dL_law_734 dL_law_735 dL_law_736 dL_law_737 dL_law_738 rfl rfl rfl (by decide) hb ?_
  refine lj_arg (pc' := 744) E dL_law_739 dL_law_740 dL_law_741 dL_law_742 dL_law_743 rfl rfl rfl (by decide) hb ?_
  refine lj_callVi (pc' := 747) (av := [vI (xI xs (n + 1)), vI (xI xs (n + 2))]) (st := [vI r]) E dL_law_744 rfl mv_RL_97 rfl rfl ⟨by decide, by decide⟩ (by simp [sr_wd]) h3 ?_
  intro r2 σ2 g2
  obtain ⟨g3, g4⟩ := h4 r2 σ2 g2
  exact lj_eq (tgt := 1427) g3 E dL_law_747 (by decide) (kk σ2 g4)
theorem case_20 {p : Program} {l : Launch} {e : Env} {s : State} {m : MethodId} {below : List Frame} {meth : Method} {c : Code} {b L : Nat} {xs : Nat → Int32} {dC : Nat → ClassId} {dI : Nat → Nat → Nat} {ad : Nat → Nat} {ca : Nat → ClassId} {σ : Sto} {n : Int} (E : lj_E p s m c b L xs dC dI ad ca) (h : Rel σ) (hb : 0 ≤ n ∧ n + 6 ≤ (L : Int)) (kk : ∀ σ2, Rel σ2 → lj_G p l e s m below meth c b dC dI ad ca 1427 [(3, vI n), (2, vR 69), (1, vR 0), (0, vR 90)] [] σ2) : lj_G p l e s m below meth c b dC dI ad ca 752 [(3, vI n), (2, vR 69), (1, vR 0), (0, vR 90)] [] σ := by
  obtain ⟨QC1, h1, h2⟩ := K_aim (v1 := xI xs (n + 1)) (v2 := xI xs (n + 2)) h
  refine lj_aload_n (pc' := 753) E dL_law_752 rfl rfl ?_
  refine lj_arg (pc' := 758) E dL_law_753 dL_law_754 dL_law_755 dL_law_756 dL_law_757 rfl rfl rfl (by decide) hb ?_
  refine lj_arg (pc' := 763) E dL_law_758 dL_law_759 dL_law_760 dL_law_761 dL_law_762 rfl rfl rfl (by decide) hb ?_
  refine lj_callVi (pc' := 766) (av := [vI (xI xs (n + 1)), vI (xI xs (n + 2))]) (st := []) E dL_law_763 rfl mv_RL_98 rfl rfl ⟨by decide, by decide⟩ (by simp [sr_wd]) h1 ?_
  intro r σ1 g1
  obtain ⟨QC2, h3, h4⟩ := h2 r σ1 g1
  refine lj_aload_n (pc' := 767) E dL_law_766 rfl rfl ?_
  refine lj_arg (pc' := 772) E dL_law_767 dL_law_768 dL_law_769 dL_law_770 dL_law_771 rfl rfl rfl (by decide) hb ?_
  refine lj_arg (pc' := 777) E dL_law_772 dL_law_773 dL_law_774 dL_law_775 dL_law_776 rfl rfl rfl (by decide) hb ?_
  refine lj_callVi (pc' := 780) (av := [vI (xI xs (n + 1)), vI (xI xs (n + 2))]) (st := [vI r]) E dL_law_777 rfl mv_RL_101 rfl rfl ⟨by decide, by decide⟩ (by simp [sr_wd]) h3 ?_
  intro r2 σ2 g2
  obtain ⟨g3, g4⟩ := h4 r2 σ2 g2
  exact lj_eq (tgt := 1427) g3 E dL_law_780 (by decide) (kk σ2 g4)
theorem case_21 {p : Program} {l : Launch} {e : Env} {s : State} {m : MethodId} {below : List Frame} {meth : Method} {c : Code} {b L : Nat} {xs : Nat → Int32} {dC : Nat → ClassId} {dI : Nat → Nat → Nat} {ad : Nat → Nat} {ca : Nat → ClassId} {σ : Sto} {n : Int} (E : lj_E p s m c b L xs dC dI ad ca) (h : Rel σ) (hb : 0 ≤ n ∧ n + 6 ≤ (L : Int)) (kk : ∀ σ2, Rel σ2 → lj_G p l e s m below meth c b dC dI ad ca 1427 [(3, vI n), (2, vR 69), (1, vR 0), (0, vR 90)] [] σ2) : lj_G p l e s m below meth c b dC dI ad ca 785 [(3, vI n), (2, vR 69), (1, vR 0), (0, vR 90)] [] σ := by
  obtain ⟨QC1, h1, h2⟩ := K_stand (v1 := xI xs (n + 1)) h
  refine lj_aload_n (pc' := 786) E dL_law_785 rfl rfl ?_
  refine lj_arg (pc' := 791) E dL_law_786 dL_law_787 dL_law_788 dL_law_789 dL_law_790 rfl rfl rfl (by decide) hb ?_
  refine lj_callVi (pc' := 794) (av := [vI (xI xs (n + 1))]) (st := []) E dL_law_791 rfl mv_RL_102 rfl rfl ⟨by decide, by decide⟩ (by simp [sr_wd]) h1 ?_
  intro r σ1 g1
  obtain ⟨QC2, h3, h4⟩ := h2 r σ1 g1
  refine lj_aload_n (pc' := 795) E dL_law_794 rfl rfl ?_
  refine lj_arg (pc' := 800) E dL_law_795 dL_law_796 dL_law_797 dL_law_798 dL_law_799 rfl rfl rfl (by decide) hb ?_
  refine lj_callVi (pc' := 803) (av := [vI (xI xs (n + 1))]) (st := [vI r]) E dL_law_800 rfl mv_RL_105 rfl rfl ⟨by decide, by decide⟩ (by simp [sr_wd]) h3 ?_
  intro r2 σ2 g2
  obtain ⟨g3, g4⟩ := h4 r2 σ2 g2
  exact lj_eq (tgt := 1427) g3 E dL_law_803 (by decide) (kk σ2 g4)
theorem case_22 {p : Program} {l : Launch} {e : Env} {s : State} {m : MethodId} {below : List Frame} {meth : Method} {c : Code} {b L : Nat} {xs : Nat → Int32} {dC : Nat → ClassId} {dI : Nat → Nat → Nat} {ad : Nat → Nat} {ca : Nat → ClassId} {σ : Sto} {n : Int} (E : lj_E p s m c b L xs dC dI ad ca) (h : Rel σ) (hb : 0 ≤ n ∧ n + 6 ≤ (L : Int)) (kk : ∀ σ2, Rel σ2 → lj_G p l e s m below meth c b dC dI ad ca 1427 [(3, vI n), (2, vR 69), (1, vR 0), (0, vR 90)] [] σ2) : lj_G p l e s m below meth c b dC dI ad ca 808 [(3, vI n), (2, vR 69), (1, vR 0), (0, vR 90)] [] σ := by
  obtain ⟨QC1, h1, h2⟩ := K_hush (v1 := xI xs (n + 1)) (v2 := xI xs (n + 2)) h
  refine lj_aload_n (pc' := 809) E dL_law_808 rfl rfl ?_
  refine lj_arg (pc' := 814) E dL_law_809 dL_law_810 dL_law_811 dL_law_812 dL_law_813 rfl rfl rfl (by decide) hb ?_
  refine lj_arg (pc' := 819) E dL_law_814 dL_law_815 dL_law_816 dL_law_817 dL_law_818 rfl rfl rfl (by decide) hb ?_
  refine lj_callVi (pc' := 822) (av := [vI (xI xs (n + 1)), vI (xI xs (n + 2))]) (st := []) E dL_law_819 rfl mv_RL_106 rfl rfl ⟨by decide, by decide⟩ (by simp [sr_wd]) h1 ?_
  intro r σ1 g1
  obtain ⟨QC2, h3, h4⟩ := h2 r σ1 g1
  refine lj_aload_n (pc' := 823) E dL_law_822 rfl rfl ?_
  refine lj_arg (pc' := 828) E dL_law_823 dL_law_824 dL_law_825 dL_law_826 dL_law_827 rfl rfl rfl (by decide) hb ?_
  refine lj_arg (pc' := 833) E dL_law_828 dL_law_829 dL_law_830 dL_law_831 dL_law_832 rfl rfl rfl (by decide) hb ?_
  refine lj_callVi (pc' := 836) (av := [vI (xI xs (n + 1)), vI (xI xs (n + 2))]) (st := [vI r]) E dL_law_833 rfl mv_RL_109 rfl rfl ⟨by decide, by decide⟩ (by simp [sr_wd]) h3 ?_
  intro r2 σ2 g2
  obtain ⟨g3, g4⟩ := h4 r2 σ2 g2
  exact lj_eq (tgt := 1427) g3 E dL_law_836 (by decide) (kk σ2 g4)
theorem case_23 {p : Program} {l : Launch} {e : Env} {s : State} {m : MethodId} {below : List Frame} {meth : Method} {c : Code} {b L : Nat} {xs : Nat → Int32} {dC : Nat → ClassId} {dI : Nat → Nat → Nat} {ad : Nat → Nat} {ca : Nat → ClassId} {σ : Sto} {n : Int} (E : lj_E p s m c b L xs dC dI ad ca) (h : Rel σ) (hb : 0 ≤ n ∧ n + 6 ≤ (L : Int)) (kk : ∀ σ2, Rel σ2 → lj_G p l e s m below meth c b dC dI ad ca 1427 [(3, vI n), (2, vR 69), (1, vR 0), (0, vR 90)] [] σ2) : lj_G p l e s m below meth c b dC dI ad ca 841 [(3, vI n), (2, vR 69), (1, vR 0), (0, vR 90)] [] σ := by
  obtain ⟨QC1, h1, h2⟩ := K_calm (v1 := xI xs (n + 1)) h
  refine lj_aload_n (pc' := 842) E dL_law_841 rfl rfl ?_
  refine lj_arg (pc' := 847) E dL_law_842 dL_law_843 dL_law_844 dL_law_845 dL_law_846 rfl rfl rfl (by decide) hb ?_
  refine lj_callVi (pc' := 850) (av := [vI (xI xs (n + 1))]) (st := []) E dL_law_847 rfl mv_RL_110 rfl rfl ⟨by decide, by decide⟩ (by simp [sr_wd]) h1 ?_
  intro r σ1 g1
  obtain ⟨QC2, h3, h4⟩ := h2 r σ1 g1
  refine lj_aload_n (pc' := 851) E dL_law_850 rfl rfl ?_
  refine lj_arg (pc' := 856) E dL_law_851 dL_law_852 dL_law_853 dL_law_854 dL_law_855 rfl rfl rfl (by decide) hb ?_
  refine lj_callVi (pc' := 859) (av := [vI (xI xs (n + 1))]) (st := [vI r]) E dL_law_856 rfl mv_RL_113 rfl rfl ⟨by decide, by decide⟩ (by simp [sr_wd]) h3 ?_
  intro r2 σ2 g2
  obtain ⟨g3, g4⟩ := h4 r2 σ2 g2
  exact lj_eq (tgt := 1427) g3 E dL_law_859 (by decide) (kk σ2 g4)
theorem case_24 {p : Program} {l : Launch} {e : Env} {s : State} {m : MethodId} {below : List Frame} {meth : Method} {c : Code} {b L : Nat} {xs : Nat → Int32} {dC : Nat → ClassId} {dI : Nat → Nat → Nat} {ad : Nat → Nat} {ca : Nat → ClassId} {σ : Sto} {n : Int} (E : lj_E p s m c b L xs dC dI ad ca) (h : Rel σ) (hb : 0 ≤ n ∧ n + 6 ≤ (L : Int)) (kk : ∀ σ2, Rel σ2 → lj_G p l e s m below meth c b dC dI ad ca 1427 [(3, vI n), (2, vR 69), (1, vR 0), (0, vR 90)] [] σ2) : lj_G p l e s m below meth c b dC dI ad ca 864 [(3, vI n), (2, vR 69), (1, vR 0), (0, vR 90)] [] σ := by
  obtain ⟨QC1, h1, h2⟩ := K_free (v1 := xI xs (n + 1)) (v2 := xI xs (n + 2)) (v3 := xI xs (n + 3)) h
  refine lj_aload_n (pc' := 865) E dL_law_864 rfl rfl ?_
  refine lj_arg (pc' := 870) E dL_law_865 dL_law_866 dL_law_867 dL_law_868 dL_law_869 rfl rfl rfl (by decide) hb ?_
  refine lj_arg (pc' := 875) E dL_law_870 dL_law_871 dL_law_872 dL_law_873 dL_law_874 rfl rfl rfl (by decide) hb ?_
  refine lj_arg (pc' := 880) E dL_law_875 dL_law_876 dL_law_877 dL_law_878 dL_law_879 rfl rfl rfl (by decide) hb ?_
  refine lj_callVi (pc' := 883) (av := [vI (xI xs (n + 1)), vI (xI xs (n + 2)), vI (xI xs (n + 3))]) (st := []) E dL_law_880 rfl mv_RL_114 rfl rfl ⟨by decide, by decide⟩ (by simp [sr_wd]) h1 ?_
  intro r σ1 g1
  obtain ⟨QC2, h3, h4⟩ := h2 r σ1 g1
  refine lj_aload_n (pc' := 884) E dL_law_883 rfl rfl ?_
  refine lj_arg (pc' := 889) E dL_law_884 dL_law_885 dL_law_886 dL_law_887 dL_law_888 rfl rfl rfl (by decide) hb ?_
  refine lj_arg (pc' := 894) E dL_law_889 dL_law_890 dL_law_891 dL_law_892 dL_law_893 rfl rfl rfl (by decide) hb ?_
  refine lj_arg (pc' := 899) E dL_law_894 dL_law_895 dL_law_896 dL_law_897 dL_law_898 rfl rfl rfl (by decide) hb ?_
  refine lj_callVi (pc' := 902) (av := [vI (xI xs (n + 1)), vI (xI xs (n + 2)), vI (xI xs (n + 3))]) (st := [vI r]) E dL_law_899 rfl mv_RL_117 rfl rfl ⟨by decide, by decide⟩ (by simp [sr_wd]) h3 ?_
  intro r2 σ2 g2
  obtain ⟨g3, g4⟩ := h4 r2 σ2 g2
  exact lj_eq (tgt := 1427) g3 E dL_law_902 (by decide) (kk σ2 g4)
theorem case_25 {p : Program} {l : Launch} {e : Env} {s : State} {m : MethodId} {below : List Frame} {meth : Method} {c : Code} {b L : Nat} {xs : Nat → Int32} {dC : Nat → ClassId} {dI : Nat → Nat → Nat} {ad : Nat → Nat} {ca : Nat → ClassId} {σ : Sto} {n : Int} (E : lj_E p s m c b L xs dC dI ad ca) (h : Rel σ) (hb : 0 ≤ n ∧ n + 6 ≤ (L : Int)) (kk : ∀ σ2, Rel σ2 → lj_G p l e s m below meth c b dC dI ad ca 1427 [(3, vI n), (2, vR 69), (1, vR 0), (0, vR 90)] [] σ2) : lj_G p l e s m below meth c b dC dI ad ca 907 [(3, vI n), (2, vR 69), (1, vR 0), (0, vR 90)] [] σ := by
  obtain ⟨QC1, h1, h2⟩ := K_seen (v1 := xI xs (n + 1)) (v2 := xI xs (n + 2)) h
  refine lj_aload_n (pc' := 908) E dL_law_907 rfl rfl ?_
  refine lj_arg (pc' := 913) E dL_law_908 dL_law_909 dL_law_910 dL_law_911 dL_law_912 rfl rfl rfl (by decide) hb ?_
  refine lj_arg (pc' := 918) E dL_law_913 dL_law_914 dL_law_915 dL_law_916 dL_law_917 rfl rfl rfl (by decide) hb ?_
  refine lj_callVi (pc' := 921) (av := [vI (xI xs (n + 1)), vI (xI xs (n + 2))]) (st := []) E dL_law_918 rfl mv_RL_118 rfl rfl ⟨by decide, by decide⟩ (by simp [sr_wd]) h1 ?_
  intro r σ1 g1
  obtain ⟨QC2, h3, h4⟩ := h2 r σ1 g1
  refine lj_aload_n (pc' := 922) E dL_law_921 rfl rfl ?_
  refine lj_arg (pc' := 927) E dL_law_922 dL_law_923 dL_law_924 dL_law_925 dL_law_926 rfl rfl rfl (by decide) hb ?_
  refine lj_arg (pc' := 932) E dL_law_927 dL_law_928 dL_law_929 dL_law_930 dL_law_931 rfl rfl rfl (by decide) hb ?_
  refine lj_callVi (pc' := 935) (av := [vI (xI xs (n + 1)), vI (xI xs (n + 2))]) (st := [vI r]) E dL_law_932 rfl mv_RL_121 rfl rfl ⟨by decide, by decide⟩ (by simp [sr_wd]) h3 ?_
  intro r2 σ2 g2
  obtain ⟨g3, g4⟩ := h4 r2 σ2 g2
  exact lj_eq (tgt := 1427) g3 E dL_law_935 (by decide) (kk σ2 g4)
theorem case_26 {p : Program} {l : Launch} {e : Env} {s : State} {m : MethodId} {below : List Frame} {meth : Method} {c : Code} {b L : Nat} {xs : Nat → Int32} {dC : Nat → ClassId} {dI : Nat → Nat → Nat} {ad : Nat → Nat} {ca : Nat → ClassId} {σ : Sto} {n : Int} (E : lj_E p s m c b L xs dC dI ad ca) (h : Rel σ) (hb : 0 ≤ n ∧ n + 6 ≤ (L : Int)) (kk : ∀ σ2, Rel σ2 → lj_G p l e s m below meth c b dC dI ad ca 1427 [(3, vI n), (2, vR 69), (1, vR 0), (0, vR 90)] [] σ2) : lj_G p l e s m below meth c b dC dI ad ca 940 [(3, vI n), (2, vR 69), (1, vR 0), (0, vR 90)] [] σ := by
  obtain ⟨QC1, h1, h2⟩ := K_forget h
  refine lj_aload_n (pc' := 941) E dL_law_940 rfl rfl ?_
  refine lj_callVi (pc' := 944) (av := []) (st := []) E dL_law_941 rfl mv_RL_122 rfl rfl ⟨by decide, by decide⟩ (by simp [sr_wd]) h1 ?_
  intro r σ1 g1
  obtain ⟨QC2, h3, h4⟩ := h2 r σ1 g1
  refine lj_aload_n (pc' := 945) E dL_law_944 rfl rfl ?_
  refine lj_callVi (pc' := 948) (av := []) (st := [vI r]) E dL_law_945 rfl mv_RL_125 rfl rfl ⟨by decide, by decide⟩ (by simp [sr_wd]) h3 ?_
  intro r2 σ2 g2
  obtain ⟨g3, g4⟩ := h4 r2 σ2 g2
  exact lj_eq (tgt := 1427) g3 E dL_law_948 (by decide) (kk σ2 g4)
theorem case_27 {p : Program} {l : Launch} {e : Env} {s : State} {m : MethodId} {below : List Frame} {meth : Method} {c : Code} {b L : Nat} {xs : Nat → Int32} {dC : Nat → ClassId} {dI : Nat → Nat → Nat} {ad : Nat → Nat} {ca : Nat → ClassId} {σ : Sto} {n : Int} (E : lj_E p s m c b L xs dC dI ad ca) (h : Rel σ) (hb : 0 ≤ n ∧ n + 6 ≤ (L : Int)) (kk : ∀ σ2, Rel σ2 → lj_G p l e s m below meth c b dC dI ad ca 1427 [(3, vI n), (2, vR 69), (1, vR 0), (0, vR 90)] [] σ2) : lj_G p l e s m below meth c b dC dI ad ca 953 [(3, vI n), (2, vR 69), (1, vR 0), (0, vR 90)] [] σ := by
  obtain ⟨QC1, h1, h2⟩ := K_never h
  refine lj_aload_n (pc' := 954) E dL_law_953 rfl rfl ?_
  refine lj_callVi (pc' := 957) (av := []) (st := []) E dL_law_954 rfl mv_RL_126 rfl rfl ⟨by decide, by decide⟩ (by simp [sr_wd]) h1 ?_
  intro r σ1 g1
  obtain ⟨QC2, h3, h4⟩ := h2 r σ1 g1
  refine lj_aload_n (pc' := 958) E dL_law_957 rfl rfl ?_
  refine lj_callVi (pc' := 961) (av := []) (st := [vI r]) E dL_law_958 rfl mv_RL_129 rfl rfl ⟨by decide, by decide⟩ (by simp [sr_wd]) h3 ?_
  intro r2 σ2 g2
  obtain ⟨g3, g4⟩ := h4 r2 σ2 g2
  exact lj_eq (tgt := 1427) g3 E dL_law_961 (by decide) (kk σ2 g4)
theorem case_28 {p : Program} {l : Launch} {e : Env} {s : State} {m : MethodId} {below : List Frame} {meth : Method} {c : Code} {b L : Nat} {xs : Nat → Int32} {dC : Nat → ClassId} {dI : Nat → Nat → Nat} {ad : Nat → Nat} {ca : Nat → ClassId} {σ : Sto} {n : Int} (E : lj_E p s m c b L xs dC dI ad ca) (h : Rel σ) (hb : 0 ≤ n ∧ n + 6 ≤ (L : Int)) (kk : ∀ σ2, Rel σ2 → lj_G p l e s m below meth c b dC dI ad ca 1427 [(3, vI n), (2, vR 69), (1, vR 0), (0, vR 90)] [] σ2) : lj_G p l e s m below meth c b dC dI ad ca 966 [(3, vI n), (2, vR 69), (1, vR 0), (0, vR 90)] [] σ := by
  obtain ⟨QC1, h1, h2⟩ := K_whence (v1 := xI xs (n + 1)) (v2 := xI xs (n + 2)) h
  refine lj_aload_n (pc' := 967) E dL_law_966 rfl rfl ?_
  refine lj_arg (pc' := 972) E dL_law_967 dL_law_968 dL_law_969 dL_law_970 dL_law_971 rfl rfl rfl (by decide) hb ?_
  refine lj_arg (pc' := 977) E dL_law_972 dL_law_973 dL_law_974 dL_law_975 dL_law_976 rfl rfl rfl (by decide) hb ?_
  refine lj_callVi (pc' := 980) (av := [vI (xI xs (n + 1)), vI (xI xs (n + 2))]) (st := []) E dL_law_977 rfl mv_RL_130 rfl rfl ⟨by decide, by decide⟩ (by simp [sr_wd]) h1 ?_
  intro r σ1 g1
  obtain ⟨QC2, h3, h4⟩ := h2 r σ1 g1
  refine lj_aload_n (pc' := 981) E dL_law_980 rfl rfl ?_
  refine lj_arg (pc' := 986) E dL_law_981 dL_law_982 dL_law_983 dL_law_984 dL_law_985 rfl rfl rfl (by decide) hb ?_
  refine lj_arg (pc' := 991) E dL_law_986 dL_law_987 dL_law_988 dL_law_989 dL_law_990 rfl rfl rfl (by decide) hb ?_
  refine lj_callVi (pc' := 994) (av := [vI (xI xs (n + 1)), vI (xI xs (n + 2))]) (st := [vI r]) E dL_law_991 rfl mv_RL_133 rfl rfl ⟨by decide, by decide⟩ (by simp [sr_wd]) h3 ?_
  intro r2 σ2 g2
  obtain ⟨g3, g4⟩ := h4 r2 σ2 g2
  exact lj_eq (tgt := 1427) g3 E dL_law_994 (by decide) (kk σ2 g4)
theorem case_29 {p : Program} {l : Launch} {e : Env} {s : State} {m : MethodId} {below : List Frame} {meth : Method} {c : Code} {b L : Nat} {xs : Nat → Int32} {dC : Nat → ClassId} {dI : Nat → Nat → Nat} {ad : Nat → Nat} {ca : Nat → ClassId} {σ : Sto} {n : Int} (E : lj_E p s m c b L xs dC dI ad ca) (h : Rel σ) (hb : 0 ≤ n ∧ n + 6 ≤ (L : Int)) (kk : ∀ σ2, Rel σ2 → lj_G p l e s m below meth c b dC dI ad ca 1427 [(3, vI n), (2, vR 69), (1, vR 0), (0, vR 90)] [] σ2) : lj_G p l e s m below meth c b dC dI ad ca 999 [(3, vI n), (2, vR 69), (1, vR 0), (0, vR 90)] [] σ := by
  obtain ⟨QC1, h1, h2⟩ := K_paces h
  refine lj_aload_n (pc' := 1000) E dL_law_999 rfl rfl ?_
  refine lj_callVi (pc' := 1003) (av := []) (st := []) E dL_law_1000 rfl mv_RL_134 rfl rfl ⟨by decide, by decide⟩ (by simp [sr_wd]) h1 ?_
  intro r σ1 g1
  obtain ⟨QC2, h3, h4⟩ := h2 r σ1 g1
  refine lj_aload_n (pc' := 1004) E dL_law_1003 rfl rfl ?_
  refine lj_callVi (pc' := 1007) (av := []) (st := [vI r]) E dL_law_1004 rfl mv_RL_137 rfl rfl ⟨by decide, by decide⟩ (by simp [sr_wd]) h3 ?_
  intro r2 σ2 g2
  obtain ⟨g3, g4⟩ := h4 r2 σ2 g2
  exact lj_eq (tgt := 1427) g3 E dL_law_1007 (by decide) (kk σ2 g4)
theorem case_30 {p : Program} {l : Launch} {e : Env} {s : State} {m : MethodId} {below : List Frame} {meth : Method} {c : Code} {b L : Nat} {xs : Nat → Int32} {dC : Nat → ClassId} {dI : Nat → Nat → Nat} {ad : Nat → Nat} {ca : Nat → ClassId} {σ : Sto} {n : Int} (E : lj_E p s m c b L xs dC dI ad ca) (h : Rel σ) (hb : 0 ≤ n ∧ n + 6 ≤ (L : Int)) (kk : ∀ σ2, Rel σ2 → lj_G p l e s m below meth c b dC dI ad ca 1427 [(3, vI n), (2, vR 69), (1, vR 0), (0, vR 90)] [] σ2) : lj_G p l e s m below meth c b dC dI ad ca 1012 [(3, vI n), (2, vR 69), (1, vR 0), (0, vR 90)] [] σ := by
  obtain ⟨QC1, h1, h2⟩ := K_ask h
  refine lj_aload_n (pc' := 1013) E dL_law_1012 rfl rfl ?_
  refine lj_callVi (pc' := 1016) (av := []) (st := []) E dL_law_1013 rfl mv_RL_138 rfl rfl ⟨by decide, by decide⟩ (by simp [sr_wd]) h1 ?_
  intro r σ1 g1
  obtain ⟨QC2, h3, h4⟩ := h2 r σ1 g1
  refine lj_aload_n (pc' := 1017) E dL_law_1016 rfl rfl ?_
  refine lj_callVi (pc' := 1020) (av := []) (st := [vI r]) E dL_law_1017 rfl mv_RL_141 rfl rfl ⟨by decide, by decide⟩ (by simp [sr_wd]) h3 ?_
  intro r2 σ2 g2
  obtain ⟨g3, g4⟩ := h4 r2 σ2 g2
  exact lj_eq (tgt := 1427) g3 E dL_law_1020 (by decide) (kk σ2 g4)
theorem case_31 {p : Program} {l : Launch} {e : Env} {s : State} {m : MethodId} {below : List Frame} {meth : Method} {c : Code} {b L : Nat} {xs : Nat → Int32} {dC : Nat → ClassId} {dI : Nat → Nat → Nat} {ad : Nat → Nat} {ca : Nat → ClassId} {σ : Sto} {n : Int} (E : lj_E p s m c b L xs dC dI ad ca) (h : Rel σ) (hb : 0 ≤ n ∧ n + 6 ≤ (L : Int)) (kk : ∀ σ2, Rel σ2 → lj_G p l e s m below meth c b dC dI ad ca 1427 [(3, vI n), (2, vR 69), (1, vR 0), (0, vR 90)] [] σ2) : lj_G p l e s m below meth c b dC dI ad ca 1025 [(3, vI n), (2, vR 69), (1, vR 0), (0, vR 90)] [] σ := by
  obtain ⟨QC1, h1, h2⟩ := K_still (v1 := xI xs (n + 1)) (v2 := xI xs (n + 2)) (v3 := xI xs (n + 3)) (v4 := xI xs (n + 4)) (v5 := xI xs (n + 5)) h
  refine lj_aload_n (pc' := 1026) E dL_law_1025 rfl rfl ?_
  refine lj_arg (pc' := 1031) E dL_law_1026 dL_law_1027 dL_law_1028 dL_law_1029 dL_law_1030 rfl rfl rfl (by decide) hb ?_
  refine lj_arg (pc' := 1036) E dL_law_1031 dL_law_1032 dL_law_1033 dL_law_1034 dL_law_1035 rfl rfl rfl (by decide) hb ?_
  refine lj_arg (pc' := 1041) E dL_law_1036 dL_law_1037 dL_law_1038 dL_law_1039 dL_law_1040 rfl rfl rfl (by decide) hb ?_
  refine lj_arg (pc' := 1046) E dL_law_1041 dL_law_1042 dL_law_1043 dL_law_1044 dL_law_1045 rfl rfl rfl (by decide) hb ?_
  refine lj_arg (pc' := 1051) E dL_law_1046 dL_law_1047 dL_law_1048 dL_law_1049 dL_law_1050 rfl rfl rfl (by decide) hb ?_
  refine lj_callVl (pc' := 1054) (av := [vI (xI xs (n + 1)), vI (xI xs (n + 2)), vI (xI xs (n + 3)), vI (xI xs (n + 4)), vI (xI xs (n + 5))]) (st := []) E dL_law_1051 rfl mv_RL_142 rfl rfl ⟨by decide, by decide⟩ (by simp [sr_wd]) h1 ?_
  intro r σ1 g1
  obtain ⟨QC2, h3, h4⟩ := h2 r σ1 g1
  refine lj_aload_n (pc' := 1055) E dL_law_1054 rfl rfl ?_
  refine lj_arg (pc' := 1060) E dL_law_1055 dL_law_1056 dL_law_1057 dL_law_1058 dL_law_1059 rfl rfl rfl (by decide) hb ?_
  refine lj_arg (pc' := 1065) E dL_law_1060 dL_law_1061 dL_law_1062 dL_law_1063 dL_law_1064 rfl rfl rfl (by decide) hb ?_
  refine lj_arg (pc' := 1070) E dL_law_1065 dL_law_1066 dL_law_1067 dL_law_1068 dL_law_1069 rfl rfl rfl (by decide) hb ?_
  refine lj_arg (pc' := 1075) E dL_law_1070 dL_law_1071 dL_law_1072 dL_law_1073 dL_law_1074 rfl rfl rfl (by decide) hb ?_
  refine lj_arg (pc' := 1080) E dL_law_1075 dL_law_1076 dL_law_1077 dL_law_1078 dL_law_1079 rfl rfl rfl (by decide) hb ?_
  refine lj_callVl (pc' := 1083) (av := [vI (xI xs (n + 1)), vI (xI xs (n + 2)), vI (xI xs (n + 3)), vI (xI xs (n + 4)), vI (xI xs (n + 5))]) (st := [vL r]) E dL_law_1080 rfl mv_RL_146 rfl rfl ⟨by decide, by decide⟩ (by simp [sr_wd]) h3 ?_
  intro r2 σ2 g2
  obtain ⟨g3, g4⟩ := h4 r2 σ2 g2
  exact lj_eqL (tgt := 1427) g3 E dL_law_1083 dL_law_1084 (by decide) (kk σ2 g4)
theorem case_32 {p : Program} {l : Launch} {e : Env} {s : State} {m : MethodId} {below : List Frame} {meth : Method} {c : Code} {b L : Nat} {xs : Nat → Int32} {dC : Nat → ClassId} {dI : Nat → Nat → Nat} {ad : Nat → Nat} {ca : Nat → ClassId} {σ : Sto} {n : Int} (E : lj_E p s m c b L xs dC dI ad ca) (h : Rel σ) (hb : 0 ≤ n ∧ n + 6 ≤ (L : Int)) (kk : ∀ σ2, Rel σ2 → lj_G p l e s m below meth c b dC dI ad ca 1427 [(3, vI n), (2, vR 69), (1, vR 0), (0, vR 90)] [] σ2) : lj_G p l e s m below meth c b dC dI ad ca 1089 [(3, vI n), (2, vR 69), (1, vR 0), (0, vR 90)] [] σ := by
  obtain ⟨QC1, h1, h2⟩ := K_evening (v1 := xI xs (n + 1)) (v2 := xI xs (n + 2)) (v3 := xI xs (n + 3)) h
  refine lj_aload_n (pc' := 1090) E dL_law_1089 rfl rfl ?_
  refine lj_arg (pc' := 1095) E dL_law_1090 dL_law_1091 dL_law_1092 dL_law_1093 dL_law_1094 rfl rfl rfl (by decide) hb ?_
  refine lj_arg (pc' := 1100) E dL_law_1095 dL_law_1096 dL_law_1097 dL_law_1098 dL_law_1099 rfl rfl rfl (by decide) hb ?_
  refine lj_arg (pc' := 1105) E dL_law_1100 dL_law_1101 dL_law_1102 dL_law_1103 dL_law_1104 rfl rfl rfl (by decide) hb ?_
  refine lj_callVi (pc' := 1108) (av := [vI (xI xs (n + 1)), vI (xI xs (n + 2)), vI (xI xs (n + 3))]) (st := []) E dL_law_1105 rfl mv_RL_147 rfl rfl ⟨by decide, by decide⟩ (by simp [sr_wd]) h1 ?_
  intro r σ1 g1
  obtain ⟨QC2, h3, h4⟩ := h2 r σ1 g1
  refine lj_aload_n (pc' := 1109) E dL_law_1108 rfl rfl ?_
  refine lj_arg (pc' := 1114) E dL_law_1109 dL_law_1110 dL_law_1111 dL_law_1112 dL_law_1113 rfl rfl rfl (by decide) hb ?_
  refine lj_arg (pc' := 1119) E dL_law_1114 dL_law_1115 dL_law_1116 dL_law_1117 dL_law_1118 rfl rfl rfl (by decide) hb ?_
  refine lj_arg (pc' := 1124) E dL_law_1119 dL_law_1120 dL_law_1121 dL_law_1122 dL_law_1123 rfl rfl rfl (by decide) hb ?_
  refine lj_callVi (pc' := 1127) (av := [vI (xI xs (n + 1)), vI (xI xs (n + 2)), vI (xI xs (n + 3))]) (st := [vI r]) E dL_law_1124 rfl mv_RL_150 rfl rfl ⟨by decide, by decide⟩ (by simp [sr_wd]) h3 ?_
  intro r2 σ2 g2
  obtain ⟨g3, g4⟩ := h4 r2 σ2 g2
  exact lj_eq (tgt := 1427) g3 E dL_law_1127 (by decide) (kk σ2 g4)
theorem case_33 {p : Program} {l : Launch} {e : Env} {s : State} {m : MethodId} {below : List Frame} {meth : Method} {c : Code} {b L : Nat} {xs : Nat → Int32} {dC : Nat → ClassId} {dI : Nat → Nat → Nat} {ad : Nat → Nat} {ca : Nat → ClassId} {σ : Sto} {n : Int} (E : lj_E p s m c b L xs dC dI ad ca) (h : Rel σ) (hb : 0 ≤ n ∧ n + 6 ≤ (L : Int)) (kk : ∀ σ2, Rel σ2 → lj_G p l e s m below meth c b dC dI ad ca 1427 [(3, vI n), (2, vR 69), (1, vR 0), (0, vR 90)] [] σ2) : lj_G p l e s m below meth c b dC dI ad ca 1132 [(3, vI n), (2, vR 69), (1, vR 0), (0, vR 90)] [] σ := by
  obtain ⟨QC1, h1, h2⟩ := K_sheet (v1 := xI xs (n + 1)) (v2 := xI xs (n + 2)) (v3 := xI xs (n + 3)) h
  refine lj_aload_n (pc' := 1133) E dL_law_1132 rfl rfl ?_
  refine lj_arg (pc' := 1138) E dL_law_1133 dL_law_1134 dL_law_1135 dL_law_1136 dL_law_1137 rfl rfl rfl (by decide) hb ?_
  refine lj_arg (pc' := 1143) E dL_law_1138 dL_law_1139 dL_law_1140 dL_law_1141 dL_law_1142 rfl rfl rfl (by decide) hb ?_
  refine lj_arg (pc' := 1148) E dL_law_1143 dL_law_1144 dL_law_1145 dL_law_1146 dL_law_1147 rfl rfl rfl (by decide) hb ?_
  refine lj_callVi (pc' := 1151) (av := [vI (xI xs (n + 1)), vI (xI xs (n + 2)), vI (xI xs (n + 3))]) (st := []) E dL_law_1148 rfl mv_RL_151 rfl rfl ⟨by decide, by decide⟩ (by simp [sr_wd]) h1 ?_
  intro r σ1 g1
  obtain ⟨QC2, h3, h4⟩ := h2 r σ1 g1
  refine lj_aload_n (pc' := 1152) E dL_law_1151 rfl rfl ?_
  refine lj_arg (pc' := 1157) E dL_law_1152 dL_law_1153 dL_law_1154 dL_law_1155 dL_law_1156 rfl rfl rfl (by decide) hb ?_
  refine lj_arg (pc' := 1162) E dL_law_1157 dL_law_1158 dL_law_1159 dL_law_1160 dL_law_1161 rfl rfl rfl (by decide) hb ?_
  refine lj_arg (pc' := 1167) E dL_law_1162 dL_law_1163 dL_law_1164 dL_law_1165 dL_law_1166 rfl rfl rfl (by decide) hb ?_
  refine lj_callVi (pc' := 1170) (av := [vI (xI xs (n + 1)), vI (xI xs (n + 2)), vI (xI xs (n + 3))]) (st := [vI r]) E dL_law_1167 rfl mv_RL_154 rfl rfl ⟨by decide, by decide⟩ (by simp [sr_wd]) h3 ?_
  intro r2 σ2 g2
  obtain ⟨g3, g4⟩ := h4 r2 σ2 g2
  exact lj_eq (tgt := 1427) g3 E dL_law_1170 (by decide) (kk σ2 g4)
theorem case_34 {p : Program} {l : Launch} {e : Env} {s : State} {m : MethodId} {below : List Frame} {meth : Method} {c : Code} {b L : Nat} {xs : Nat → Int32} {dC : Nat → ClassId} {dI : Nat → Nat → Nat} {ad : Nat → Nat} {ca : Nat → ClassId} {σ : Sto} {n : Int} (E : lj_E p s m c b L xs dC dI ad ca) (h : Rel σ) (hb : 0 ≤ n ∧ n + 6 ≤ (L : Int)) (kk : ∀ σ2, Rel σ2 → lj_G p l e s m below meth c b dC dI ad ca 1427 [(3, vI n), (2, vR 69), (1, vR 0), (0, vR 90)] [] σ2) : lj_G p l e s m below meth c b dC dI ad ca 1175 [(3, vI n), (2, vR 69), (1, vR 0), (0, vR 90)] [] σ := by
  obtain ⟨QC1, h1, h2⟩ := K_lose (v1 := xI xs (n + 1)) h
  refine lj_aload_n (pc' := 1176) E dL_law_1175 rfl rfl ?_
  refine lj_arg (pc' := 1181) E dL_law_1176 dL_law_1177 dL_law_1178 dL_law_1179 dL_law_1180 rfl rfl rfl (by decide) hb ?_
  refine lj_callVi (pc' := 1184) (av := [vI (xI xs (n + 1))]) (st := []) E dL_law_1181 rfl mv_RL_155 rfl rfl ⟨by decide, by decide⟩ (by simp [sr_wd]) h1 ?_
  intro r σ1 g1
  obtain ⟨QC2, h3, h4⟩ := h2 r σ1 g1
  refine lj_aload_n (pc' := 1185) E dL_law_1184 rfl rfl ?_
  refine lj_arg (pc' := 1190) E dL_law_1185 dL_law_1186 dL_law_1187 dL_law_1188 dL_law_1189 rfl rfl rfl (by decide) hb ?_
  refine lj_callVi (pc' := 1193) (av := [vI (xI xs (n + 1))]) (st := [vI r]) E dL_law_1190 rfl mv_RL_158 rfl rfl ⟨by decide, by decide⟩ (by simp [sr_wd]) h3 ?_
  intro r2 σ2 g2
  obtain ⟨g3, g4⟩ := h4 r2 σ2 g2
  exact lj_eq (tgt := 1427) g3 E dL_law_1193 (by decide) (kk σ2 g4)
theorem case_35 {p : Program} {l : Launch} {e : Env} {s : State} {m : MethodId} {below : List Frame} {meth : Method} {c : Code} {b L : Nat} {xs : Nat → Int32} {dC : Nat → ClassId} {dI : Nat → Nat → Nat} {ad : Nat → Nat} {ca : Nat → ClassId} {σ : Sto} {n : Int} (E : lj_E p s m c b L xs dC dI ad ca) (h : Rel σ) (hb : 0 ≤ n ∧ n + 6 ≤ (L : Int)) (kk : ∀ σ2, Rel σ2 → lj_G p l e s m below meth c b dC dI ad ca 1427 [(3, vI n), (2, vR 69), (1, vR 0), (0, vR 90)] [] σ2) : lj_G p l e s m below meth c b dC dI ad ca 1198 [(3, vI n), (2, vR 69), (1, vR 0), (0, vR 90)] [] σ := by
  obtain ⟨QC1, h1, h2⟩ := K_lay (v1 := xI xs (n + 1)) (v2 := xI xs (n + 2)) (v3 := xI xs (n + 3)) (v4 := xI xs (n + 4)) h
  refine lj_aload_n (pc' := 1199) E dL_law_1198 rfl rfl ?_
  refine lj_arg (pc' := 1204) E dL_law_1199 dL_law_1200 dL_law_1201 dL_law_1202 dL_law_1203 rfl rfl rfl (by decide) hb ?_
  refine lj_arg (pc' := 1209) E dL_law_1204 dL_law_1205 dL_law_1206 dL_law_1207 dL_law_1208 rfl rfl rfl (by decide) hb ?_
  refine lj_arg (pc' := 1214) E dL_law_1209 dL_law_1210 dL_law_1211 dL_law_1212 dL_law_1213 rfl rfl rfl (by decide) hb ?_
  refine lj_arg (pc' := 1219) E dL_law_1214 dL_law_1215 dL_law_1216 dL_law_1217 dL_law_1218 rfl rfl rfl (by decide) hb ?_
  refine lj_callVi (pc' := 1222) (av := [vI (xI xs (n + 1)), vI (xI xs (n + 2)), vI (xI xs (n + 3)), vI (xI xs (n + 4))]) (st := []) E dL_law_1219 rfl mv_RL_159 rfl rfl ⟨by decide, by decide⟩ (by simp [sr_wd]) h1 ?_
  intro r σ1 g1
  obtain ⟨QC2, h3, h4⟩ := h2 r σ1 g1
  refine lj_aload_n (pc' := 1223) E dL_law_1222 rfl rfl ?_
  refine lj_arg (pc' := 1228) E dL_law_1223 dL_law_1224 dL_law_1225 dL_law_1226 dL_law_1227 rfl rfl rfl (by decide) hb ?_
  refine lj_arg (pc' := 1233) E dL_law_1228 dL_law_1229 dL_law_1230 dL_law_1231 dL_law_1232 rfl rfl rfl (by decide) hb ?_
  refine lj_arg (pc' := 1238) E dL_law_1233 dL_law_1234 dL_law_1235 dL_law_1236 dL_law_1237 rfl rfl rfl (by decide) hb ?_
  refine lj_arg (pc' := 1243) E dL_law_1238 dL_law_1239 dL_law_1240 dL_law_1241 dL_law_1242 rfl rfl rfl (by decide) hb ?_
  refine lj_callVi (pc' := 1246) (av := [vI (xI xs (n + 1)), vI (xI xs (n + 2)), vI (xI xs (n + 3)), vI (xI xs (n + 4))]) (st := [vI r]) E dL_law_1243 rfl mv_RL_163 rfl rfl ⟨by decide, by decide⟩ (by simp [sr_wd]) h3 ?_
  intro r2 σ2 g2
  obtain ⟨g3, g4⟩ := h4 r2 σ2 g2
  exact lj_eq (tgt := 1427) g3 E dL_law_1246 (by decide) (kk σ2 g4)
theorem case_36 {p : Program} {l : Launch} {e : Env} {s : State} {m : MethodId} {below : List Frame} {meth : Method} {c : Code} {b L : Nat} {xs : Nat → Int32} {dC : Nat → ClassId} {dI : Nat → Nat → Nat} {ad : Nat → Nat} {ca : Nat → ClassId} {σ : Sto} {n : Int} (E : lj_E p s m c b L xs dC dI ad ca) (h : Rel σ) (hb : 0 ≤ n ∧ n + 6 ≤ (L : Int)) (kk : ∀ σ2, Rel σ2 → lj_G p l e s m below meth c b dC dI ad ca 1427 [(3, vI n), (2, vR 69), (1, vR 0), (0, vR 90)] [] σ2) : lj_G p l e s m below meth c b dC dI ad ca 1251 [(3, vI n), (2, vR 69), (1, vR 0), (0, vR 90)] [] σ := by
  obtain ⟨QC1, h1, h2⟩ := K_get (v1 := xI xs (n + 1)) (v2 := xI xs (n + 2)) (v3 := xI xs (n + 3)) h
  refine lj_aload_n (pc' := 1252) E dL_law_1251 rfl rfl ?_
  refine lj_arg (pc' := 1257) E dL_law_1252 dL_law_1253 dL_law_1254 dL_law_1255 dL_law_1256 rfl rfl rfl (by decide) hb ?_
  refine lj_arg (pc' := 1262) E dL_law_1257 dL_law_1258 dL_law_1259 dL_law_1260 dL_law_1261 rfl rfl rfl (by decide) hb ?_
  refine lj_arg (pc' := 1267) E dL_law_1262 dL_law_1263 dL_law_1264 dL_law_1265 dL_law_1266 rfl rfl rfl (by decide) hb ?_
  refine lj_callVi (pc' := 1270) (av := [vI (xI xs (n + 1)), vI (xI xs (n + 2)), vI (xI xs (n + 3))]) (st := []) E dL_law_1267 rfl mv_RL_164 rfl rfl ⟨by decide, by decide⟩ (by simp [sr_wd]) h1 ?_
  intro r σ1 g1
  obtain ⟨QC2, h3, h4⟩ := h2 r σ1 g1
  refine lj_aload_n (pc' := 1271) E dL_law_1270 rfl rfl ?_
  refine lj_arg (pc' := 1276) E dL_law_1271 dL_law_1272 dL_law_1273 dL_law_1274 dL_law_1275 rfl rfl rfl (by decide) hb ?_
  refine lj_arg (pc' := 1281) E dL_law_1276 dL_law_1277 dL_law_1278 dL_law_1279 dL_law_1280 rfl rfl rfl (by decide) hb ?_
  refine lj_arg (pc' := 1286) E dL_law_1281 dL_law_1282 dL_law_1283 dL_law_1284 dL_law_1285 rfl rfl rfl (by decide) hb ?_
  refine lj_callVi (pc' := 1289) (av := [vI (xI xs (n + 1)), vI (xI xs (n + 2)), vI (xI xs (n + 3))]) (st := [vI r]) E dL_law_1286 rfl mv_RL_167 rfl rfl ⟨by decide, by decide⟩ (by simp [sr_wd]) h3 ?_
  intro r2 σ2 g2
  obtain ⟨g3, g4⟩ := h4 r2 σ2 g2
  exact lj_eq (tgt := 1427) g3 E dL_law_1289 (by decide) (kk σ2 g4)
theorem case_37 {p : Program} {l : Launch} {e : Env} {s : State} {m : MethodId} {below : List Frame} {meth : Method} {c : Code} {b L : Nat} {xs : Nat → Int32} {dC : Nat → ClassId} {dI : Nat → Nat → Nat} {ad : Nat → Nat} {ca : Nat → ClassId} {σ : Sto} {n : Int} (E : lj_E p s m c b L xs dC dI ad ca) (h : Rel σ) (hb : 0 ≤ n ∧ n + 6 ≤ (L : Int)) (kk : ∀ σ2, Rel σ2 → lj_G p l e s m below meth c b dC dI ad ca 1427 [(3, vI n), (2, vR 69), (1, vR 0), (0, vR 90)] [] σ2) : lj_G p l e s m below meth c b dC dI ad ca 1294 [(3, vI n), (2, vR 69), (1, vR 0), (0, vR 90)] [] σ := by
  obtain ⟨QC1, h1, h2⟩ := K_copy (v1 := xI xs (n + 1)) (v2 := xI xs (n + 2)) (v3 := xI xs (n + 3)) (v4 := xI xs (n + 4)) (v5 := xI xs (n + 5)) h (toInt_r32 _) (toInt_r32 _) (toInt_r32 _)
  refine lj_aload_n (pc' := 1295) E dL_law_1294 rfl rfl ?_
  refine lj_arg (pc' := 1300) E dL_law_1295 dL_law_1296 dL_law_1297 dL_law_1298 dL_law_1299 rfl rfl rfl (by decide) hb ?_
  refine lj_arg (pc' := 1305) E dL_law_1300 dL_law_1301 dL_law_1302 dL_law_1303 dL_law_1304 rfl rfl rfl (by decide) hb ?_
  refine lj_arg (pc' := 1310) E dL_law_1305 dL_law_1306 dL_law_1307 dL_law_1308 dL_law_1309 rfl rfl rfl (by decide) hb ?_
  refine lj_arg (pc' := 1315) E dL_law_1310 dL_law_1311 dL_law_1312 dL_law_1313 dL_law_1314 rfl rfl rfl (by decide) hb ?_
  refine lj_arg (pc' := 1320) E dL_law_1315 dL_law_1316 dL_law_1317 dL_law_1318 dL_law_1319 rfl rfl rfl (by decide) hb ?_
  refine lj_callVi (pc' := 1323) (av := [vI (xI xs (n + 1)), vI (xI xs (n + 2)), vI (xI xs (n + 3)), vI (xI xs (n + 4)), vI (xI xs (n + 5))]) (st := []) E dL_law_1320 rfl mv_RL_168 rfl rfl ⟨by decide, by decide⟩ (by simp [sr_wd]) h1 ?_
  intro r σ1 g1
  obtain ⟨QC2, h3, h4⟩ := h2 r σ1 g1
  refine lj_aload_n (pc' := 1324) E dL_law_1323 rfl rfl ?_
  refine lj_arg (pc' := 1329) E dL_law_1324 dL_law_1325 dL_law_1326 dL_law_1327 dL_law_1328 rfl rfl rfl (by decide) hb ?_
  refine lj_arg (pc' := 1334) E dL_law_1329 dL_law_1330 dL_law_1331 dL_law_1332 dL_law_1333 rfl rfl rfl (by decide) hb ?_
  refine lj_arg (pc' := 1339) E dL_law_1334 dL_law_1335 dL_law_1336 dL_law_1337 dL_law_1338 rfl rfl rfl (by decide) hb ?_
  refine lj_arg (pc' := 1344) E dL_law_1339 dL_law_1340 dL_law_1341 dL_law_1342 dL_law_1343 rfl rfl rfl (by decide) hb ?_
  refine lj_arg (pc' := 1349) E dL_law_1344 dL_law_1345 dL_law_1346 dL_law_1347 dL_law_1348 rfl rfl rfl (by decide) hb ?_
  refine lj_callVi (pc' := 1352) (av := [vI (xI xs (n + 1)), vI (xI xs (n + 2)), vI (xI xs (n + 3)), vI (xI xs (n + 4)), vI (xI xs (n + 5))]) (st := [vI r]) E dL_law_1349 rfl mv_RL_171 rfl rfl ⟨by decide, by decide⟩ (by simp [sr_wd]) h3 ?_
  intro r2 σ2 g2
  obtain ⟨g3, g4⟩ := h4 r2 σ2 g2
  exact lj_eq (tgt := 1427) g3 E dL_law_1352 (by decide) (kk σ2 g4)
theorem case_38 {p : Program} {l : Launch} {e : Env} {s : State} {m : MethodId} {below : List Frame} {meth : Method} {c : Code} {b L : Nat} {xs : Nat → Int32} {dC : Nat → ClassId} {dI : Nat → Nat → Nat} {ad : Nat → Nat} {ca : Nat → ClassId} {σ : Sto} {n : Int} (E : lj_E p s m c b L xs dC dI ad ca) (h : Rel σ) (hb : 0 ≤ n ∧ n + 6 ≤ (L : Int)) (kk : ∀ σ2, Rel σ2 → lj_G p l e s m below meth c b dC dI ad ca 1427 [(3, vI n), (2, vR 69), (1, vR 0), (0, vR 90)] [] σ2) : lj_G p l e s m below meth c b dC dI ad ca 1357 [(3, vI n), (2, vR 69), (1, vR 0), (0, vR 90)] [] σ := by
  obtain ⟨QC1, h1, h2⟩ := K_write (v1 := xI xs (n + 1)) (v2 := xI xs (n + 2)) h
  refine lj_aload_n (pc' := 1358) E dL_law_1357 rfl rfl ?_
  refine lj_arg (pc' := 1363) E dL_law_1358 dL_law_1359 dL_law_1360 dL_law_1361 dL_law_1362 rfl rfl rfl (by decide) hb ?_
  refine lj_arg (pc' := 1368) E dL_law_1363 dL_law_1364 dL_law_1365 dL_law_1366 dL_law_1367 rfl rfl rfl (by decide) hb ?_
  refine lj_callVi (pc' := 1371) (av := [vI (xI xs (n + 1)), vI (xI xs (n + 2))]) (st := []) E dL_law_1368 rfl mv_RL_172 rfl rfl ⟨by decide, by decide⟩ (by simp [sr_wd]) h1 ?_
  intro r σ1 g1
  obtain ⟨QC2, h3, h4⟩ := h2 r σ1 g1
  refine lj_aload_n (pc' := 1372) E dL_law_1371 rfl rfl ?_
  refine lj_arg (pc' := 1377) E dL_law_1372 dL_law_1373 dL_law_1374 dL_law_1375 dL_law_1376 rfl rfl rfl (by decide) hb ?_
  refine lj_arg (pc' := 1382) E dL_law_1377 dL_law_1378 dL_law_1379 dL_law_1380 dL_law_1381 rfl rfl rfl (by decide) hb ?_
  refine lj_callVi (pc' := 1385) (av := [vI (xI xs (n + 1)), vI (xI xs (n + 2))]) (st := [vI r]) E dL_law_1382 rfl mv_RL_175 rfl rfl ⟨by decide, by decide⟩ (by simp [sr_wd]) h3 ?_
  intro r2 σ2 g2
  obtain ⟨g3, g4⟩ := h4 r2 σ2 g2
  exact lj_eq (tgt := 1427) g3 E dL_law_1385 (by decide) (kk σ2 g4)
theorem case_39 {p : Program} {l : Launch} {e : Env} {s : State} {m : MethodId} {below : List Frame} {meth : Method} {c : Code} {b L : Nat} {xs : Nat → Int32} {dC : Nat → ClassId} {dI : Nat → Nat → Nat} {ad : Nat → Nat} {ca : Nat → ClassId} {σ : Sto} {n : Int} (E : lj_E p s m c b L xs dC dI ad ca) (h : Rel σ) (hb : 0 ≤ n ∧ n + 6 ≤ (L : Int)) (kk : ∀ σ2, Rel σ2 → lj_G p l e s m below meth c b dC dI ad ca 1427 [(3, vI n), (2, vR 69), (1, vR 0), (0, vR 90)] [] σ2) : lj_G p l e s m below meth c b dC dI ad ca 1390 [(3, vI n), (2, vR 69), (1, vR 0), (0, vR 90)] [] σ := by
  obtain ⟨QC1, h1, h2⟩ := K_count (v1 := xI xs (n + 1)) h
  refine lj_aload_n (pc' := 1391) E dL_law_1390 rfl rfl ?_
  refine lj_arg (pc' := 1396) E dL_law_1391 dL_law_1392 dL_law_1393 dL_law_1394 dL_law_1395 rfl rfl rfl (by decide) hb ?_
  refine lj_callVi (pc' := 1399) (av := [vI (xI xs (n + 1))]) (st := []) E dL_law_1396 rfl mv_RL_176 rfl rfl ⟨by decide, by decide⟩ (by simp [sr_wd]) h1 ?_
  intro r σ1 g1
  obtain ⟨QC2, h3, h4⟩ := h2 r σ1 g1
  refine lj_aload_n (pc' := 1400) E dL_law_1399 rfl rfl ?_
  refine lj_arg (pc' := 1405) E dL_law_1400 dL_law_1401 dL_law_1402 dL_law_1403 dL_law_1404 rfl rfl rfl (by decide) hb ?_
  refine lj_callVi (pc' := 1408) (av := [vI (xI xs (n + 1))]) (st := [vI r]) E dL_law_1405 rfl mv_RL_179 rfl rfl ⟨by decide, by decide⟩ (by simp [sr_wd]) h3 ?_
  intro r2 σ2 g2
  obtain ⟨g3, g4⟩ := h4 r2 σ2 g2
  exact lj_eq (tgt := 1427) g3 E dL_law_1408 (by decide) (kk σ2 g4)
theorem case_40 {p : Program} {l : Launch} {e : Env} {s : State} {m : MethodId} {below : List Frame} {meth : Method} {c : Code} {b L : Nat} {xs : Nat → Int32} {dC : Nat → ClassId} {dI : Nat → Nat → Nat} {ad : Nat → Nat} {ca : Nat → ClassId} {σ : Sto} {n : Int} (E : lj_E p s m c b L xs dC dI ad ca) (h : Rel σ) (hb : 0 ≤ n ∧ n + 6 ≤ (L : Int)) (kk : ∀ σ2, Rel σ2 → lj_G p l e s m below meth c b dC dI ad ca 1427 [(3, vI n), (2, vR 69), (1, vR 0), (0, vR 90)] [] σ2) : lj_G p l e s m below meth c b dC dI ad ca 1413 [(3, vI n), (2, vR 69), (1, vR 0), (0, vR 90)] [] σ := by
  obtain ⟨QC1, h1, h2⟩ := K_digest h
  refine lj_aload_n (pc' := 1414) E dL_law_1413 rfl rfl ?_
  refine lj_callVl (pc' := 1417) (av := []) (st := []) E dL_law_1414 rfl mv_RL_180 rfl rfl ⟨by decide, by decide⟩ (by simp [sr_wd]) h1 ?_
  intro r σ1 g1
  obtain ⟨QC2, h3, h4⟩ := h2 r σ1 g1
  refine lj_aload_n (pc' := 1418) E dL_law_1417 rfl rfl ?_
  refine lj_callVl (pc' := 1421) (av := []) (st := [vL r]) E dL_law_1418 rfl mv_RL_184 rfl rfl ⟨by decide, by decide⟩ (by simp [sr_wd]) h3 ?_
  intro r2 σ2 g2
  obtain ⟨g3, g4⟩ := h4 r2 σ2 g2
  exact lj_eqL (tgt := 1427) g3 E dL_law_1421 dL_law_1422 (by decide) (kk σ2 g4)
theorem law_switch {p : Program} {l : Launch} {e : Env} {s : State} {m : MethodId} {below : List Frame} {meth : Method} {c : Code} {b L : Nat} {xs : Nat → Int32} {dC : Nat → ClassId} {dI : Nat → Nat → Nat} {ad : Nat → Nat} {ca : Nat → ClassId} {σ : Sto} {n : Int} (E : lj_E p s m c b L xs dC dI ad ca) (h : Rel σ) (hb : 0 ≤ n ∧ n + 6 ≤ (L : Int)) (kk : ∀ σ2, Rel σ2 → lj_G p l e s m below meth c b dC dI ad ca 1427 [(3, vI n), (2, vR 69), (1, vR 0), (0, vR 90)] [] σ2) : lj_G p l e s m below meth c b dC dI ad ca 27 [(3, vI n), (2, vR 69), (1, vR 0), (0, vR 90)] [] σ := by
  refine lj_aload_n (pc' := 28) E dL_law_27 rfl rfl ?_
  refine lj_iload_n (pc' := 29) E dL_law_28 rfl rfl ?_
  refine lj_sld (pc' := 30) E dL_law_29 rfl ⟨hb.1, by omega⟩ ?_
  refine lj_bipush (pc' := 32) ⟨by unfold r32; omega, by decide +kernel⟩ E dL_law_30 rfl ?_
  refine lj_iand (pc' := 33) E dL_law_32 rfl ?_
  generalize iA (xI xs n) 63 = t
  by_cases h1 : t < 0 ∨ 40 < t
  · exact lj_tabO (tgt := 1427) E dL_law_33 h1 (by decide) (kk σ h)
  · have h2 : t = 0 ∨ t = 1 ∨ t = 2 ∨ t = 3 ∨ t = 4 ∨ t = 5 ∨ t = 6 ∨ t = 7 ∨ t = 8 ∨ t = 9 ∨ t = 10 ∨ t = 11 ∨ t = 12 ∨ t = 13 ∨ t = 14 ∨ t = 15 ∨ t = 16 ∨ t = 17 ∨ t = 18 ∨ t = 19 ∨ t = 20 ∨ t = 21 ∨ t = 22 ∨ t = 23 ∨ t = 24 ∨ t = 25 ∨ t = 26 ∨ t = 27 ∨ t = 28 ∨ t = 29 ∨ t = 30 ∨ t = 31 ∨ t = 32 ∨ t = 33 ∨ t = 34 ∨ t = 35 ∨ t = 36 ∨ t = 37 ∨ t = 38 ∨ t = 39 ∨ t = 40 := by omega
    clear h1
    rcases h2 with rfl | rfl | rfl | rfl | rfl | rfl | rfl | rfl | rfl | rfl | rfl | rfl | rfl | rfl | rfl | rfl | rfl | rfl | rfl | rfl | rfl | rfl | rfl | rfl | rfl | rfl | rfl | rfl | rfl | rfl | rfl | rfl | rfl | rfl | rfl | rfl | rfl | rfl | rfl | rfl | rfl
    · exact lj_tab (tgt := 212) E dL_law_33 (by decide) (by decide) rfl (by decide) (case_0 E h hb kk)
    · exact lj_tab (tgt := 245) E dL_law_33 (by decide) (by decide) rfl (by decide) (case_1 E h hb kk)
    · exact lj_tab (tgt := 268) E dL_law_33 (by decide) (by decide) rfl (by decide) (case_2 E h hb kk)
    · exact lj_tab (tgt := 291) E dL_law_33 (by decide) (by decide) rfl (by decide) (case_3 E h hb kk)
    · exact lj_tab (tgt := 314) E dL_law_33 (by decide) (by decide) rfl (by decide) (case_4 E h hb kk)
    · exact lj_tab (tgt := 337) E dL_law_33 (by decide) (by decide) rfl (by decide) (case_5 E h hb kk)
    · exact lj_tab (tgt := 370) E dL_law_33 (by decide) (by decide) rfl (by decide) (case_6 E h hb kk)
    · exact lj_tab (tgt := 393) E dL_law_33 (by decide) (by decide) rfl (by decide) (case_7 E h hb kk)
    · exact lj_tab (tgt := 416) E dL_law_33 (by decide) (by decide) rfl (by decide) (case_8 E h hb kk)
    · exact lj_tab (tgt := 479) E dL_law_33 (by decide) (by decide) rfl (by decide) (case_9 E h hb kk)
    · exact lj_tab (tgt := 512) E dL_law_33 (by decide) (by decide) rfl (by decide) (case_10 E h hb kk)
    · exact lj_tab (tgt := 525) E dL_law_33 (by decide) (by decide) rfl (by decide) (case_11 E h hb kk)
    · exact lj_tab (tgt := 548) E dL_law_33 (by decide) (by decide) rfl (by decide) (case_12 E h hb kk)
    · exact lj_tab (tgt := 591) E dL_law_33 (by decide) (by decide) rfl (by decide) (case_13 E h hb kk)
    · exact lj_tab (tgt := 624) E dL_law_33 (by decide) (by decide) rfl (by decide) (case_14 E h hb kk)
    · exact lj_tab (tgt := 657) E dL_law_33 (by decide) (by decide) rfl (by decide) (case_15 E h hb kk)
    · exact lj_tab (tgt := 680) E dL_law_33 (by decide) (by decide) rfl (by decide) (case_16 E h hb kk)
    · exact lj_tab (tgt := 693) E dL_law_33 (by decide) (by decide) rfl (by decide) (case_17 E h hb kk)
    · exact lj_tab (tgt := 706) E dL_law_33 (by decide) (by decide) rfl (by decide) (case_18 E h hb kk)
    · exact lj_tab (tgt := 719) E dL_law_33 (by decide) (by decide) rfl (by decide) (case_19 E h hb kk)
    · exact lj_tab (tgt := 752) E dL_law_33 (by decide) (by decide) rfl (by decide) (case_20 E h hb kk)
    · exact lj_tab (tgt := 785) E dL_law_33 (by decide) (by decide) rfl (by decide) (case_21 E h hb kk)
    · exact lj_tab (tgt := 808) E dL_law_33 (by decide) (by decide) rfl (by decide) (case_22 E h hb kk)
    · exact lj_tab (tgt := 841) E dL_law_33 (by decide) (by decide) rfl (by decide) (case_23 E h hb kk)
    · exact lj_tab (tgt := 864) E dL_law_33 (by decide) (by decide) rfl (by decide) (case_24 E h hb kk)
    · exact lj_tab (tgt := 907) E dL_law_33 (by decide) (by decide) rfl (by decide) (case_25 E h hb kk)
    · exact lj_tab (tgt := 940) E dL_law_33 (by decide) (by decide) rfl (by decide) (case_26 E h hb kk)
    · exact lj_tab (tgt := 953) E dL_law_33 (by decide) (by decide) rfl (by decide) (case_27 E h hb kk)
    · exact lj_tab (tgt := 966) E dL_law_33 (by decide) (by decide) rfl (by decide) (case_28 E h hb kk)
    · exact lj_tab (tgt := 999) E dL_law_33 (by decide) (by decide) rfl (by decide) (case_29 E h hb kk)
    · exact lj_tab (tgt := 1012) E dL_law_33 (by decide) (by decide) rfl (by decide) (case_30 E h hb kk)
    · exact lj_tab (tgt := 1025) E dL_law_33 (by decide) (by decide) rfl (by decide) (case_31 E h hb kk)
    · exact lj_tab (tgt := 1089) E dL_law_33 (by decide) (by decide) rfl (by decide) (case_32 E h hb kk)
    · exact lj_tab (tgt := 1132) E dL_law_33 (by decide) (by decide) rfl (by decide) (case_33 E h hb kk)
    · exact lj_tab (tgt := 1175) E dL_law_33 (by decide) (by decide) rfl (by decide) (case_34 E h hb kk)
    · exact lj_tab (tgt := 1198) E dL_law_33 (by decide) (by decide) rfl (by decide) (case_35 E h hb kk)
    · exact lj_tab (tgt := 1251) E dL_law_33 (by decide) (by decide) rfl (by decide) (case_36 E h hb kk)
    · exact lj_tab (tgt := 1294) E dL_law_33 (by decide) (by decide) rfl (by decide) (case_37 E h hb kk)
    · exact lj_tab (tgt := 1357) E dL_law_33 (by decide) (by decide) rfl (by decide) (case_38 E h hb kk)
    · exact lj_tab (tgt := 1390) E dL_law_33 (by decide) (by decide) rfl (by decide) (case_39 E h hb kk)
    · exact lj_tab (tgt := 1413) E dL_law_33 (by decide) (by decide) rfl (by decide) (case_40 E h hb kk)
theorem law_loop {p : Program} {l : Launch} {e : Env} {s : State} {m : MethodId} {below : List Frame} {meth : Method} {c : Code} {b L : Nat} {xs : Nat → Int32} {dC : Nat → ClassId} {dI : Nat → Nat → Nat} {ad : Nat → Nat} {ca : Nat → ClassId} {σ : Sto} {n : Int} (E : lj_E p s m c b L xs dC dI ad ca) (hr : meth.sig.returnType = ret) (hlk : meth.locks = false) : ∀ (f : Nat) (n : Int) (σ : Sto), Rel σ → 0 ≤ n → n ≤ (L : Int) → (L : Int) + 6 ≤ n + 6 * (f : Int) → lj_G p l e s m below meth c b dC dI ad ca 18 [(3, vI n), (2, vR 69), (1, vR 0), (0, vR 90)] [] σ := by
  have hL := E.2.2.2.2.2.2.2.2.2.2.2
  intro f
  induction f with
  | zero => intro n σ h h0 h1 h2; omega
  | succ f ih =>
    intro n σ h h0 h1 h2
    have e1 : w32 ((L : Int) - 6) = (L : Int) - 6 := w32_id (by unfold r32; omega)
    have e2 : w32 (n + 6) = n + 6 := w32_id (by unfold r32; omega)
    refine lj_iload_n (pc' := 19) E dL_law_18 rfl rfl ?_
    refine lj_aload_n (pc' := 20) E dL_law_19 rfl rfl ?_
    refine lj_slen (pc' := 21) E dL_law_20 rfl ?_
    refine lj_bipush (pc' := 23) ⟨by unfold r32; omega, by decide +kernel⟩ E dL_law_21 rfl ?_
    refine lj_isub (pc' := 24) E dL_law_23 rfl ?_
    rw [e1]
    refine lj_gt (pc' := 27) (tgt := 1433) E dL_law_24 (by decide) rfl (fun g => ?_) (fun g => ?_)
    · refine lj_iconst (pc' := 1434) (by unfold r32; omega) E dL_law_1433 rfl ?_
      exact lj_end E hr hlk dL_law_1434
    · refine law_switch E h ⟨h0, by omega⟩ (fun σ2 hR => ?_)
      refine lj_iinc (pc' := 1430) (lv' := [(3, vI (n + 6)), (2, vR 69), (1, vR 0), (0, vR 90)]) E dL_law_1427 rfl rfl (by decide) (by rw [e2]; rfl) ?_
      refine lj_goto (pc' := 18) E dL_law_1430 (by decide) ?_
      exact ih (n + 6) σ2 hR (by omega) (by omega) (by omega)
