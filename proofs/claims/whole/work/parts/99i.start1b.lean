/-! ===== the store behind both constructors, put together ===== -/
def ce_all : va_W → va_W → Prop
  | [], [] => True
  | p :: t, q :: u => p.1 = q.1 ∧ ce_sim p.2 q.2 ∧ ce_all t u
  | _, _ => False
theorem ce_all.P {D : va_G} {cl : List vw_C} {H : Heap} : ∀ {w1 w2 : va_W}, ce_all w1 w2 → va_P D cl w1 H → va_P D cl w2 H := by
  intro w1
  induction w1 with
  | nil =>
    intro w2 h hP
    cases w2 with
    | nil => exact hP
    | cons q u => exact absurd h id
  | cons p t ih =>
    intro w2 h hP
    cases w2 with
    | nil => exact absurd h id
    | cons q u =>
      obtain ⟨h1, h2, h3⟩ := h
      have hP2 := ih h3 (fun k x hx => hP (k + 1) x hx)
      intro k x hx
      cases k with
      | zero =>
        have e : q = x := Option.some.inj hx
        subst e
        have h4 := hP 0 p rfl
        obtain ⟨qa, qe⟩ := q
        obtain ⟨pa, pe⟩ := p
        have h1 : pa = qa := h1
        subst h1
        exact h2 D cl pa H h4
      | succ k => exact hP2 k x hx
theorem rW_list {ad : Nat → Nat} {ca : Nat → ClassId} {σ : Sto} : rW ad ca σ = [(ad 0, sr_cE ad ca σ 0), (ad 1, sr_cE ad ca σ 1), (ad 2, sr_cE ad ca σ 2), (ad 3, sr_cE ad ca σ 3), (ad 4, sr_cE ad ca σ 4), (ad 5, sr_cE ad ca σ 5), (ad 6, sr_cE ad ca σ 6), (ad 7, sr_cE ad ca σ 7), (ad 8, sr_cE ad ca σ 8), (ad 9, sr_cE ad ca σ 9), (ad 10, sr_cE ad ca σ 10), (ad 11, sr_cE ad ca σ 11), (ad 12, sr_cE ad ca σ 12), (ad 13, sr_cE ad ca σ 13), (ad 14, sr_cE ad ca σ 14), (ad 15, sr_cE ad ca σ 15), (ad 16, sr_cE ad ca σ 16), (ad 17, sr_cE ad ca σ 17), (ad 18, sr_cE ad ca σ 18), (ad 19, sr_cE ad ca σ 19), (ad 20, sr_cE ad ca σ 20), (ad 21, sr_cE ad ca σ 21), (ad 22, sr_cE ad ca σ 22), (ad 23, sr_cE ad ca σ 23), (ad 24, sr_cE ad ca σ 24), (ad 25, sr_cE ad ca σ 25), (ad 26, sr_cE ad ca σ 26), (ad 27, sr_cE ad ca σ 27), (ad 28, sr_cE ad ca σ 28), (ad 29, sr_cE ad ca σ 29), (ad 30, sr_cE ad ca σ 30), (ad 31, sr_cE ad ca σ 31), (ad 32, sr_cE ad ca σ 32), (ad 33, sr_cE ad ca σ 33), (ad 34, sr_cE ad ca σ 34), (ad 35, sr_cE ad ca σ 35), (ad 36, sr_cE ad ca σ 36), (ad 37, sr_cE ad ca σ 37), (ad 38, sr_cE ad ca σ 38), (ad 39, sr_cE ad ca σ 39), (ad 40, sr_cE ad ca σ 40), (ad 41, sr_cE ad ca σ 41), (ad 42, sr_cE ad ca σ 42), (ad 43, sr_cE ad ca σ 43), (ad 44, sr_cE ad ca σ 44), (ad 45, sr_cE ad ca σ 45), (ad 46, sr_cE ad ca σ 46), (ad 47, sr_cE ad ca σ 47), (ad 48, sr_cE ad ca σ 48), (ad 49, sr_cE ad ca σ 49), (ad 50, sr_cE ad ca σ 50), (ad 51, sr_cE ad ca σ 51), (ad 52, sr_cE ad ca σ 52), (ad 53, sr_cE ad ca σ 53), (ad 54, sr_cE ad ca σ 54), (ad 55, sr_cE ad ca σ 55), (ad 56, sr_cE ad ca σ 56), (ad 57, sr_cE ad ca σ 57), (ad 58, sr_cE ad ca σ 58), (ad 59, sr_cE ad ca σ 59), (ad 60, sr_cE ad ca σ 60), (ad 61, sr_cE ad ca σ 61), (ad 62, sr_cE ad ca σ 62), (ad 63, sr_cE ad ca σ 63), (ad 64, sr_cE ad ca σ 64), (ad 65, sr_cE ad ca σ 65), (ad 66, sr_cE ad ca σ 66), (ad 67, sr_cE ad ca σ 67), (ad 68, sr_cE ad ca σ 68), (ad 69, sr_cE ad ca σ 69), (ad 70, sr_cE ad ca σ 70), (ad 71, sr_cE ad ca σ 71), (ad 72, sr_cE ad ca σ 72), (ad 73, sr_cE ad ca σ 73), (ad 74, sr_cE ad ca σ 74), (ad 75, sr_cE ad ca σ 75), (ad 76, sr_cE ad ca σ 76), (ad 77, sr_cE ad ca σ 77), (ad 78, sr_cE ad ca σ 78), (ad 79, sr_cE ad ca σ 79), (ad 80, sr_cE ad ca σ 80), (ad 81, sr_cE ad ca σ 81), (ad 82, sr_cE ad ca σ 82), (ad 83, sr_cE ad ca σ 83), (ad 84, sr_cE ad ca σ 84), (ad 85, sr_cE ad ca σ 85), (ad 86, sr_cE ad ca σ 86), (ad 87, sr_cE ad ca σ 87), (ad 88, sr_cE ad ca σ 88), (ad 89, sr_cE ad ca σ 89)] := rfl
theorem all_conv {ka : Nat → ClassId} {ad : Nat → Nat} : ce_all (cells90 ka ad) (rW ad (fun i => ka (kd i)) s0) := by
  rw [rW_list]
  unfold cells90
  refine ⟨rfl, sim_0 (ka := ka) (ad := ad), ?_⟩
  refine ⟨rfl, sim_1 (ka := ka) (ad := ad), ?_⟩
  refine ⟨rfl, sim_2 (ka := ka) (ad := ad), ?_⟩
  refine ⟨rfl, sim_3 (ka := ka) (ad := ad), ?_⟩
  refine ⟨rfl, sim_4 (ka := ka) (ad := ad), ?_⟩
  refine ⟨rfl, sim_5 (ka := ka) (ad := ad), ?_⟩
  refine ⟨rfl, sim_6 (ka := ka) (ad := ad), ?_⟩
  refine ⟨rfl, sim_7 (ka := ka) (ad := ad), ?_⟩
  refine ⟨rfl, sim_8 (ka := ka) (ad := ad), ?_⟩
  refine ⟨rfl, sim_9 (ka := ka) (ad := ad), ?_⟩
  refine ⟨rfl, sim_10 (ka := ka) (ad := ad), ?_⟩
  refine ⟨rfl, sim_11 (ka := ka) (ad := ad), ?_⟩
  refine ⟨rfl, sim_12 (ka := ka) (ad := ad), ?_⟩
  refine ⟨rfl, sim_13 (ka := ka) (ad := ad), ?_⟩
  refine ⟨rfl, sim_14 (ka := ka) (ad := ad), ?_⟩
  refine ⟨rfl, sim_15 (ka := ka) (ad := ad), ?_⟩
  refine ⟨rfl, sim_16 (ka := ka) (ad := ad), ?_⟩
  refine ⟨rfl, sim_17 (ka := ka) (ad := ad), ?_⟩
  refine ⟨rfl, sim_18 (ka := ka) (ad := ad), ?_⟩
  refine ⟨rfl, sim_19 (ka := ka) (ad := ad), ?_⟩
  refine ⟨rfl, sim_20 (ka := ka) (ad := ad), ?_⟩
  refine ⟨rfl, sim_21 (ka := ka) (ad := ad), ?_⟩
  refine ⟨rfl, sim_22 (ka := ka) (ad := ad), ?_⟩
  refine ⟨rfl, sim_23 (ka := ka) (ad := ad), ?_⟩
  refine ⟨rfl, sim_24 (ka := ka) (ad := ad), ?_⟩
  refine ⟨rfl, sim_25 (ka := ka) (ad := ad), ?_⟩
  refine ⟨rfl, sim_26 (ka := ka) (ad := ad), ?_⟩
  refine ⟨rfl, sim_27 (ka := ka) (ad := ad), ?_⟩
  refine ⟨rfl, sim_28 (ka := ka) (ad := ad), ?_⟩
  refine ⟨rfl, sim_29 (ka := ka) (ad := ad), ?_⟩
  refine ⟨rfl, sim_30 (ka := ka) (ad := ad), ?_⟩
  refine ⟨rfl, sim_31 (ka := ka) (ad := ad), ?_⟩
  refine ⟨rfl, sim_32 (ka := ka) (ad := ad), ?_⟩
  refine ⟨rfl, sim_33 (ka := ka) (ad := ad), ?_⟩
  refine ⟨rfl, sim_34 (ka := ka) (ad := ad), ?_⟩
  refine ⟨rfl, sim_35 (ka := ka) (ad := ad), ?_⟩
  refine ⟨rfl, sim_36 (ka := ka) (ad := ad), ?_⟩
  refine ⟨rfl, sim_37 (ka := ka) (ad := ad), ?_⟩
  refine ⟨rfl, sim_38 (ka := ka) (ad := ad), ?_⟩
  refine ⟨rfl, sim_39 (ka := ka) (ad := ad), ?_⟩
  refine ⟨rfl, sim_40 (ka := ka) (ad := ad), ?_⟩
  refine ⟨rfl, sim_41 (ka := ka) (ad := ad), ?_⟩
  refine ⟨rfl, sim_42 (ka := ka) (ad := ad), ?_⟩
  refine ⟨rfl, sim_43 (ka := ka) (ad := ad), ?_⟩
  refine ⟨rfl, sim_44 (ka := ka) (ad := ad), ?_⟩
  refine ⟨rfl, sim_45 (ka := ka) (ad := ad), ?_⟩
  refine ⟨rfl, sim_46 (ka := ka) (ad := ad), ?_⟩
  refine ⟨rfl, sim_47 (ka := ka) (ad := ad), ?_⟩
  refine ⟨rfl, sim_48 (ka := ka) (ad := ad), ?_⟩
  refine ⟨rfl, sim_49 (ka := ka) (ad := ad), ?_⟩
  refine ⟨rfl, sim_50 (ka := ka) (ad := ad), ?_⟩
  refine ⟨rfl, sim_51 (ka := ka) (ad := ad), ?_⟩
  refine ⟨rfl, sim_52 (ka := ka) (ad := ad), ?_⟩
  refine ⟨rfl, sim_53 (ka := ka) (ad := ad), ?_⟩
  refine ⟨rfl, sim_54 (ka := ka) (ad := ad), ?_⟩
  refine ⟨rfl, sim_55 (ka := ka) (ad := ad), ?_⟩
  refine ⟨rfl, sim_56 (ka := ka) (ad := ad), ?_⟩
  refine ⟨rfl, sim_57 (ka := ka) (ad := ad), ?_⟩
  refine ⟨rfl, sim_58 (ka := ka) (ad := ad), ?_⟩
  refine ⟨rfl, sim_59 (ka := ka) (ad := ad), ?_⟩
  refine ⟨rfl, sim_60 (ka := ka) (ad := ad), ?_⟩
  refine ⟨rfl, sim_61 (ka := ka) (ad := ad), ?_⟩
  refine ⟨rfl, sim_62 (ka := ka) (ad := ad), ?_⟩
  refine ⟨rfl, sim_63 (ka := ka) (ad := ad), ?_⟩
  refine ⟨rfl, sim_64 (ka := ka) (ad := ad), ?_⟩
  refine ⟨rfl, sim_65 (ka := ka) (ad := ad), ?_⟩
  refine ⟨rfl, sim_66 (ka := ka) (ad := ad), ?_⟩
  refine ⟨rfl, sim_67 (ka := ka) (ad := ad), ?_⟩
  refine ⟨rfl, sim_68 (ka := ka) (ad := ad), ?_⟩
  refine ⟨rfl, sim_69 (ka := ka) (ad := ad), ?_⟩
  refine ⟨rfl, sim_70 (ka := ka) (ad := ad), ?_⟩
  refine ⟨rfl, sim_71 (ka := ka) (ad := ad), ?_⟩
  refine ⟨rfl, sim_72 (ka := ka) (ad := ad), ?_⟩
  refine ⟨rfl, sim_73 (ka := ka) (ad := ad), ?_⟩
  refine ⟨rfl, sim_74 (ka := ka) (ad := ad), ?_⟩
  refine ⟨rfl, sim_75 (ka := ka) (ad := ad), ?_⟩
  refine ⟨rfl, sim_76 (ka := ka) (ad := ad), ?_⟩
  refine ⟨rfl, sim_77 (ka := ka) (ad := ad), ?_⟩
  refine ⟨rfl, sim_78 (ka := ka) (ad := ad), ?_⟩
  refine ⟨rfl, sim_79 (ka := ka) (ad := ad), ?_⟩
  refine ⟨rfl, sim_80 (ka := ka) (ad := ad), ?_⟩
  refine ⟨rfl, sim_81 (ka := ka) (ad := ad), ?_⟩
  refine ⟨rfl, sim_82 (ka := ka) (ad := ad), ?_⟩
  refine ⟨rfl, sim_83 (ka := ka) (ad := ad), ?_⟩
  refine ⟨rfl, sim_84 (ka := ka) (ad := ad), ?_⟩
  refine ⟨rfl, sim_85 (ka := ka) (ad := ad), ?_⟩
  refine ⟨rfl, sim_86 (ka := ka) (ad := ad), ?_⟩
  refine ⟨rfl, sim_87 (ka := ka) (ad := ad), ?_⟩
  refine ⟨rfl, sim_88 (ka := ka) (ad := ad), ?_⟩
  refine ⟨rfl, sim_89 (ka := ka) (ad := ad), ?_⟩
  exact trivial
theorem P_conv {ka : Nat → ClassId} {ad : Nat → Nat} {D : va_G} {cl : List vw_C} {H : Heap} (hP : va_P D cl (cells90 ka ad) H) : va_P D cl (rW ad (fun i => ka (kd i)) s0) H := all_conv.P hP
theorem cells_adr {ka : Nat → ClassId} {ad : Nat → Nat} : (cells90 ka ad).map (fun q => q.1) = (List.range 90).map ad := rfl
theorem D_conv {ka : Nat → ClassId} {ad : Nat → Nat} {A : Nat → Prop} (hD : va_D A (cells90 ka ad)) : sr_D A ad := by
  have key : ∀ k : Nat, k < 90 → ∃ q : Nat × va_E, (cells90 ka ad)[k]? = some q ∧ q.1 = ad k := by
    intro k hk
    have h1 : ((cells90 ka ad).map (fun q => q.1))[k]? = some (ad k) := by
      rw [cells_adr, List.getElem?_map, List.getElem?_range hk]
      rfl
    rw [List.getElem?_map] at h1
    cases h2 : (cells90 ka ad)[k]? with
    | none => rw [h2] at h1; cases h1
    | some q => rw [h2] at h1; exact ⟨q, rfl, Option.some.inj h1⟩
  refine ⟨fun i j hi hj he => ?_, fun i hi => ?_⟩
  · obtain ⟨p, h1, e1⟩ := key i hi
    obtain ⟨q, h2, e2⟩ := key j hj
    exact hD.1 i j p q h1 h2 (by rw [e1, e2, he])
  · obtain ⟨p, h1, e1⟩ := key i hi
    rw [← e1]
    exact hD.2 i p h1
theorem K_conv {ka : Nat → ClassId} {dC : Nat → ClassId} {dI : Nat → Nat → Nat} {s : State} (hK : va_K (dC, dI) vwCl (ic_ty ka) s) : va_K (dC, dI) vwCl (tyW (fun i => ka (kd i))) s := by
  refine ⟨hK.1, fun k q hq => ?_⟩
  obtain ⟨i, hi, rfl⟩ := List.mem_map.mp (List.mem_of_getElem? hq)
  have h1 := (List.mem_filter.mp hi).2
  have h2 : kd i < 10 := by simpa using h1
  have h3 : i < 90 := List.mem_range.mp (List.mem_filter.mp hi).1
  have h4 : ∀ i, i < 90 → kd i < 10 → kd i = 1 ∨ kd i = 2 ∨ kd i = 3 ∨ kd i = 4 ∨ kd i = 5 := by decide +kernel
  rcases h4 i h3 h2 with h | h | h | h | h
  · show ArrOfT s (ka (kd i)) (sr_aty (kd i)) ∧ va_RA s (ka (kd i)) (sr_aty (kd i))
    rw [h]; exact hK.2 0 _ rfl
  · show ArrOfT s (ka (kd i)) (sr_aty (kd i)) ∧ va_RA s (ka (kd i)) (sr_aty (kd i))
    rw [h]; exact hK.2 1 _ rfl
  · show ArrOfT s (ka (kd i)) (sr_aty (kd i)) ∧ va_RA s (ka (kd i)) (sr_aty (kd i))
    rw [h]; exact hK.2 2 _ rfl
  · show ArrOfT s (ka (kd i)) (sr_aty (kd i)) ∧ va_RA s (ka (kd i)) (sr_aty (kd i))
    rw [h]; exact hK.2 3 _ rfl
  · show ArrOfT s (ka (kd i)) (sr_aty (kd i)) ∧ va_RA s (ka (kd i)) (sr_aty (kd i))
    rw [h]; exact hK.2 4 _ rfl
theorem okT_0 (t : Nat) : okT t 0 := by
  unfold okT
  split
  · unfold r64; omega
  · split
    · exact Or.inl rfl
    · unfold r32; omega
theorem okS_0 : okS s0 := by
  intro a b
  unfold s0
  by_cases h : a = 2 ∨ a = 15 ∨ a = 53 ∨ a = 70
  · rw [if_pos h]
    rcases h with rfl | rfl | rfl | rfl <;> (rw [sty_int rfl]; show r32 _; unfold r32; omega)
  rw [if_neg h]
  clear h
  by_cases h : a = 6 ∧ b = 11
  · rw [if_pos h]
    obtain ⟨rfl, rfl⟩ := h
    rw [show sty 6 11 = 0 from rfl]
    show r32 _
    unfold r32; omega
  rw [if_neg h]
  clear h
  by_cases h : a = 16 ∧ b = 10
  · rw [if_pos h]
    obtain ⟨rfl, rfl⟩ := h
    rw [show sty 16 10 = 0 from rfl]
    show r32 _
    unfold r32; omega
  rw [if_neg h]
  clear h
  by_cases h : a = 36 ∧ b = 0
  · rw [if_pos h]
    obtain ⟨rfl, rfl⟩ := h
    rw [show sty 36 0 = 0 from rfl]
    show r32 _
    unfold r32; omega
  rw [if_neg h]
  clear h
  by_cases h : a = 38 ∧ b = 0
  · rw [if_pos h]
    obtain ⟨rfl, rfl⟩ := h
    rw [show sty 38 0 = 0 from rfl]
    show r32 _
    unfold r32; omega
  rw [if_neg h]
  clear h
  by_cases h : a = 40 ∧ b = 0
  · rw [if_pos h]
    obtain ⟨rfl, rfl⟩ := h
    rw [show sty 40 0 = 0 from rfl]
    show r32 _
    unfold r32; omega
  rw [if_neg h]
  clear h
  by_cases h : a = 42 ∧ b = 0
  · rw [if_pos h]
    obtain ⟨rfl, rfl⟩ := h
    rw [show sty 42 0 = 0 from rfl]
    show r32 _
    unfold r32; omega
  rw [if_neg h]
  clear h
  by_cases h : a = 44 ∧ b = 11
  · rw [if_pos h]
    obtain ⟨rfl, rfl⟩ := h
    rw [show sty 44 11 = 0 from rfl]
    show r32 _
    unfold r32; omega
  rw [if_neg h]
  clear h
  by_cases h : a = 54 ∧ b = 10
  · rw [if_pos h]
    obtain ⟨rfl, rfl⟩ := h
    rw [show sty 54 10 = 0 from rfl]
    show r32 _
    unfold r32; omega
  rw [if_neg h]
  clear h
  by_cases h : a = 62 ∧ b = 5
  · rw [if_pos h]
    obtain ⟨rfl, rfl⟩ := h
    rw [show sty 62 5 = 0 from rfl]
    show r32 _
    unfold r32; omega
  rw [if_neg h]
  clear h
  by_cases h : a = 63 ∧ b = 0
  · rw [if_pos h]
    obtain ⟨rfl, rfl⟩ := h
    rw [show sty 63 0 = 0 from rfl]
    show r32 _
    unfold r32; omega
  rw [if_neg h]
  clear h
  by_cases h : a = 63 ∧ b = 1
  · rw [if_pos h]
    obtain ⟨rfl, rfl⟩ := h
    rw [show sty 63 1 = 0 from rfl]
    show r32 _
    unfold r32; omega
  rw [if_neg h]
  clear h
  by_cases h : a = 63 ∧ b = 2
  · rw [if_pos h]
    obtain ⟨rfl, rfl⟩ := h
    rw [show sty 63 2 = 0 from rfl]
    show r32 _
    unfold r32; omega
  rw [if_neg h]
  clear h
  by_cases h : a = 69 ∧ b = 13
  · rw [if_pos h]
    obtain ⟨rfl, rfl⟩ := h
    rw [show sty 69 13 = 0 from rfl]
    show r32 _
    unfold r32; omega
  rw [if_neg h]
  clear h
  exact okT_0 _
theorem Start_0 : Start s0 := by
  refine ⟨⟨rfl, rfl⟩, fun k hk => ?_, ⟨rfl, rfl⟩, ⟨rfl, rfl⟩, ⟨rfl, rfl⟩, fun k hk => ?_, ⟨rfl, rfl⟩, fun i hi => rfl, ⟨rfl, rfl⟩, rfl⟩
  · have hc : k = 0 ∨ k = 1 ∨ k = 2 ∨ k = 3 := by omega
    rcases hc with rfl | rfl | rfl | rfl <;> exact ⟨rfl, rfl⟩
  · have hc : k = 0 ∨ k = 1 ∨ k = 2 := by omega
    rcases hc with rfl | rfl | rfl <;> exact ⟨rfl, rfl, rfl⟩
