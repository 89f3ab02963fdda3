theorem mem_tbl (i : Nat) {w : Cond} (h : lw_tbl[i]? = some w) (hg : goodWord w = true) : w ∈ gW := List.mem_filter.mpr ⟨List.mem_of_getElem? h, hg⟩
theorem tin_1 : ∀ w ∈ tables_1_1, w ∈ lw_tbl := fun w h => List.mem_append_right _ (List.mem_append_left _ h)
theorem mem_t1 (i : Nat) {w : Cond} (h : tables_1_1[i]? = some w) (hg : goodWord w = true) : w ∈ gW := List.mem_filter.mpr ⟨tin_1 w (List.mem_of_getElem? h), hg⟩
theorem tin_2 : ∀ w ∈ tables_1_2, w ∈ lw_tbl := fun w h => List.mem_append_right _ (List.mem_append_right _ (List.mem_append_left _ h))
theorem mem_t2 (i : Nat) {w : Cond} (h : tables_1_2[i]? = some w) (hg : goodWord w = true) : w ∈ gW := List.mem_filter.mpr ⟨tin_2 w (List.mem_of_getElem? h), hg⟩
theorem tin_3 : ∀ w ∈ tables_1_3, w ∈ lw_tbl := fun w h => List.mem_append_right _ (List.mem_append_right _ (List.mem_append_right _ (List.mem_append_left _ h)))
theorem mem_t3 (i : Nat) {w : Cond} (h : tables_1_3[i]? = some w) (hg : goodWord w = true) : w ∈ gW := List.mem_filter.mpr ⟨tin_3 w (List.mem_of_getElem? h), hg⟩
theorem tin_4 : ∀ w ∈ tables_1_4, w ∈ lw_tbl := fun w h => List.mem_append_right _ (List.mem_append_right _ (List.mem_append_right _ (List.mem_append_right _ (List.mem_append_left _ h))))
theorem mem_t4 (i : Nat) {w : Cond} (h : tables_1_4[i]? = some w) (hg : goodWord w = true) : w ∈ gW := List.mem_filter.mpr ⟨tin_4 w (List.mem_of_getElem? h), hg⟩
theorem tin_5 : ∀ w ∈ tables_1_5, w ∈ lw_tbl := fun w h => List.mem_append_right _ (List.mem_append_right _ (List.mem_append_right _ (List.mem_append_right _ (List.mem_append_right _ (List.mem_append_left _ h)))))
theorem mem_t5 (i : Nat) {w : Cond} (h : tables_1_5[i]? = some w) (hg : goodWord w = true) : w ∈ gW := List.mem_filter.mpr ⟨tin_5 w (List.mem_of_getElem? h), hg⟩
theorem tin_6 : ∀ w ∈ tables_1_6, w ∈ lw_tbl := fun w h => List.mem_append_right _ (List.mem_append_right _ (List.mem_append_right _ (List.mem_append_right _ (List.mem_append_right _ (List.mem_append_right _ (List.mem_append_left _ h))))))
theorem mem_t6 (i : Nat) {w : Cond} (h : tables_1_6[i]? = some w) (hg : goodWord w = true) : w ∈ gW := List.mem_filter.mpr ⟨tin_6 w (List.mem_of_getElem? h), hg⟩
theorem tin_7 : ∀ w ∈ tables_1_7, w ∈ lw_tbl := fun w h => List.mem_append_right _ (List.mem_append_right _ (List.mem_append_right _ (List.mem_append_right _ (List.mem_append_right _ (List.mem_append_right _ (List.mem_append_right _ (h)))))))
theorem mem_t7 (i : Nat) {w : Cond} (h : tables_1_7[i]? = some w) (hg : goodWord w = true) : w ∈ gW := List.mem_filter.mpr ⟨tin_7 w (List.mem_of_getElem? h), hg⟩
theorem mem_prv {y : MethodName} {n : Nat} (h : (y, n) ∈ lw_privs) (hg : goodWord (Cond.selects y.cls y y) = true) : Cond.selects y.cls y y ∈ gW := List.mem_filter.mpr ⟨List.mem_append_left _ (List.mem_map.mpr ⟨(y, n), h, rfl⟩), hg⟩
theorem uw_0 : ∀ w ∈ u_ws RX0 TX0 10, w ∈ gW := by
  have h : ∀ w ∈ u_ws RX0 TX0 10, w ∈ lw_tbl ∧ goodWord w = true := by decide +kernel
  exact fun w hw => List.mem_filter.mpr (h w hw)
theorem uw_1 : ∀ w ∈ u_ws RX1 TX1 1, w ∈ gW := by
  have h : ∀ w ∈ u_ws RX1 TX1 1, w ∈ lw_tbl ∧ goodWord w = true := by decide +kernel
  exact fun w hw => List.mem_filter.mpr (h w hw)
theorem uw_2 : ∀ w ∈ u_ws RX2 TX2 3, w ∈ gW := by
  have h : ∀ w ∈ u_ws RX2 TX2 3, w ∈ lw_tbl ∧ goodWord w = true := by decide +kernel
  exact fun w hw => List.mem_filter.mpr (h w hw)
theorem uw_3 : ∀ w ∈ u_ws RX3 TX3 7, w ∈ gW := by
  have h : ∀ w ∈ u_ws RX3 TX3 7, w ∈ lw_tbl ∧ goodWord w = true := by decide +kernel
  exact fun w hw => List.mem_filter.mpr (h w hw)
theorem uw_4 : ∀ w ∈ u_ws RX4 TX4 12, w ∈ gW := by
  have h : ∀ w ∈ u_ws RX4 TX4 12, w ∈ lw_tbl ∧ goodWord w = true := by decide +kernel
  exact fun w hw => List.mem_filter.mpr (h w hw)
theorem uw_5 : ∀ w ∈ u_ws RX5 TX5 10, w ∈ gW := by
  have h : ∀ w ∈ u_ws RX5 TX5 10, w ∈ lw_tbl ∧ goodWord w = true := by decide +kernel
  exact fun w hw => List.mem_filter.mpr (h w hw)
theorem uw_6 : ∀ w ∈ u_ws RX6 TX6 13, w ∈ gW := by
  have h : ∀ w ∈ u_ws RX6 TX6 13, w ∈ lw_tbl ∧ goodWord w = true := by decide +kernel
  exact fun w hw => List.mem_filter.mpr (h w hw)
theorem uw_7 : ∀ w ∈ u_ws RX7 TX7 3, w ∈ gW := by
  have h : ∀ w ∈ u_ws RX7 TX7 3, w ∈ lw_tbl ∧ goodWord w = true := by decide +kernel
  exact fun w hw => List.mem_filter.mpr (h w hw)
theorem uw_8 : ∀ w ∈ u_ws RX8 TX8 3, w ∈ gW := by
  have h : ∀ w ∈ u_ws RX8 TX8 3, w ∈ lw_tbl ∧ goodWord w = true := by decide +kernel
  exact fun w hw => List.mem_filter.mpr (h w hw)
theorem uw_9 : ∀ w ∈ u_ws RX9 TX9 2, w ∈ gW := by
  have h : ∀ w ∈ u_ws RX9 TX9 2, w ∈ lw_tbl ∧ goodWord w = true := by decide +kernel
  exact fun w hw => List.mem_filter.mpr (h w hw)
theorem uw_10 : ∀ w ∈ u_ws RX10 TX10 3, w ∈ gW := by
  have h : ∀ w ∈ u_ws RX10 TX10 3, w ∈ lw_tbl ∧ goodWord w = true := by decide +kernel
  exact fun w hw => List.mem_filter.mpr (h w hw)
theorem uw_11 : ∀ w ∈ u_ws RX11 TX11 13, w ∈ gW := by
  have h : ∀ w ∈ u_ws RX11 TX11 13, w ∈ lw_tbl ∧ goodWord w = true := by decide +kernel
  exact fun w hw => List.mem_filter.mpr (h w hw)
theorem uw_12 : ∀ w ∈ u_ws RX12 TX12 32, w ∈ gW := by
  have h : ∀ w ∈ u_ws RX12 TX12 32, w ∈ lw_tbl ∧ goodWord w = true := by decide +kernel
  exact fun w hw => List.mem_filter.mpr (h w hw)
theorem wm_395 : (Cond.fieldLink "SmokeRings" (11 : Nat) "SmokeRings" "texts" "[LSmokeRings$Text;") ∈ gW := mem_t2 155 (by decide +kernel) (by decide +kernel)
theorem fl_RX11_11 : sr_FL RX11 11 11 0 := ⟨(RX11, TX11, 13), rfl, by decide, rfl, uw_11, wm_395⟩
theorem wm_396 : (Cond.fieldLink "SmokeRings" (15 : Nat) "SmokeRings" "faults" "[I") ∈ gW := mem_t2 156 (by decide +kernel) (by decide +kernel)
theorem fl_RX11_15 : sr_FL RX11 15 11 1 := ⟨(RX11, TX11, 13), rfl, by decide, rfl, uw_11, wm_396⟩
theorem wm_397 : (Cond.fieldLink "SmokeRings" (22 : Nat) "SmokeRings" "valley" "LSmokeRings$Valley;") ∈ gW := mem_t2 157 (by decide +kernel) (by decide +kernel)
theorem fl_RX11_22 : sr_FL RX11 22 11 2 := ⟨(RX11, TX11, 13), rfl, by decide, rfl, uw_11, wm_397⟩
theorem wm_398 : (Cond.fieldLink "SmokeRings" (29 : Nat) "SmokeRings" "told" "LSmokeRings$Night;") ∈ gW := mem_t2 158 (by decide +kernel) (by decide +kernel)
theorem fl_RX11_29 : sr_FL RX11 29 11 3 := ⟨(RX11, TX11, 13), rfl, by decide, rfl, uw_11, wm_398⟩
theorem wm_399 : (Cond.fieldLink "SmokeRings" (38 : Nat) "SmokeRings" "base" "LSmokeRings$Play;") ∈ gW := mem_t2 159 (by decide +kernel) (by decide +kernel)
theorem fl_RX11_38 : sr_FL RX11 38 11 4 := ⟨(RX11, TX11, 13), rfl, by decide, rfl, uw_11, wm_399⟩
theorem wm_400 : (Cond.fieldLink "SmokeRings" (45 : Nat) "SmokeRings" "diary" "LSmokeRings$Diary;") ∈ gW := mem_t2 160 (by decide +kernel) (by decide +kernel)
theorem fl_RX11_45 : sr_FL RX11 45 11 5 := ⟨(RX11, TX11, 13), rfl, by decide, rfl, uw_11, wm_400⟩
theorem wm_401 : (Cond.fieldLink "SmokeRings" (52 : Nat) "SmokeRings" "sights" "LSmokeRings$Sights;") ∈ gW := mem_t2 161 (by decide +kernel) (by decide +kernel)
theorem fl_RX11_52 : sr_FL RX11 52 11 6 := ⟨(RX11, TX11, 13), rfl, by decide, rfl, uw_11, wm_401⟩
theorem wm_405 : (Cond.fieldLink "SmokeRings" (58 : Nat) "SmokeRings" "sheets" "[LSmokeRings$Sheet;") ∈ gW := mem_t2 165 (by decide +kernel) (by decide +kernel)
theorem fl_RX11_58 : sr_FL RX11 58 11 10 := ⟨(RX11, TX11, 13), rfl, by decide, rfl, uw_11, wm_405⟩
theorem wm_406 : (Cond.fieldLink "SmokeRings" (62 : Nat) "SmokeRings" "finding" "I") ∈ gW := mem_t2 166 (by decide +kernel) (by decide +kernel)
theorem fl_RX11_62 : sr_FL RX11 62 11 11 := ⟨(RX11, TX11, 13), rfl, by decide, rfl, uw_11, wm_406⟩
theorem fp_RX11_62 : sr_FP RX11 62 11 11 := ⟨(RX11, TX11, 13), tyX11, rfl, by decide, rfl, uw_11, wm_406, tyX11_ok, nmX11, rfl, Or.inl ⟨rfl, rfl⟩⟩
theorem wm_407 : (Cond.fieldLink "SmokeRings" (66 : Nat) "SmokeRings" "played" "Z") ∈ gW := mem_t2 167 (by decide +kernel) (by decide +kernel)
theorem fl_RX11_66 : sr_FL RX11 66 11 12 := ⟨(RX11, TX11, 13), rfl, by decide, rfl, uw_11, wm_407⟩
theorem fp_RX11_66 : sr_FP RX11 66 11 12 := ⟨(RX11, TX11, 13), tyX11, rfl, by decide, rfl, uw_11, wm_407, tyX11_ok, nmX11, rfl, Or.inr (Or.inr ⟨rfl, rfl⟩)⟩
theorem wm_402 : (Cond.fieldLink "SmokeRings" (82 : Nat) "SmokeRings" "plans" "LSmokeRings$Plans;") ∈ gW := mem_t2 162 (by decide +kernel) (by decide +kernel)
theorem fl_RX11_82 : sr_FL RX11 82 11 7 := ⟨(RX11, TX11, 13), rfl, by decide, rfl, uw_11, wm_402⟩
theorem wm_403 : (Cond.fieldLink "SmokeRings" (91 : Nat) "SmokeRings" "guesses" "LSmokeRings$Guesses;") ∈ gW := mem_t2 163 (by decide +kernel) (by decide +kernel)
theorem fl_RX11_91 : sr_FL RX11 91 11 8 := ⟨(RX11, TX11, 13), rfl, by decide, rfl, uw_11, wm_403⟩
theorem wm_404 : (Cond.fieldLink "SmokeRings" (98 : Nat) "SmokeRings" "chances" "LSmokeRings$Chances;") ∈ gW := mem_t2 164 (by decide +kernel) (by decide +kernel)
theorem fl_RX11_98 : sr_FL RX11 98 11 9 := ⟨(RX11, TX11, 13), rfl, by decide, rfl, uw_11, wm_404⟩
theorem wm_242 : (Cond.fieldLink "SmokeRings" (113 : Nat) "SmokeRings$Text" "length" "I") ∈ gW := mem_t2 2 (by decide +kernel) (by decide +kernel)
theorem fl_RX11_113 : sr_FL RX11 113 9 1 := ⟨(RX9, TX9, 2), rfl, by decide, rfl, uw_9, wm_242⟩
theorem fp_RX11_113 : sr_FP RX11 113 9 1 := ⟨(RX9, TX9, 2), tyX9, rfl, by decide, rfl, uw_9, wm_242, tyX9_ok, nmX9, rfl, Or.inl ⟨rfl, rfl⟩⟩
theorem wm_38 : (Cond.fieldLink "SmokeRings" (116 : Nat) "SmokeRings$Valley" "cells" "I") ∈ gW := mem_t1 38 (by decide +kernel) (by decide +kernel)
theorem fl_RX11_116 : sr_FL RX11 116 10 0 := ⟨(RX10, TX10, 3), rfl, by decide, rfl, uw_10, wm_38⟩
theorem fp_RX11_116 : sr_FP RX11 116 10 0 := ⟨(RX10, TX10, 3), tyX10, rfl, by decide, rfl, uw_10, wm_38, tyX10_ok, nmX10, rfl, Or.inl ⟨rfl, rfl⟩⟩
theorem wm_99 : (Cond.fieldLink "SmokeRings" (125 : Nat) "SmokeRings$Night" "stands" "[I") ∈ gW := mem_t1 99 (by decide +kernel) (by decide +kernel)
theorem fl_RX11_125 : sr_FL RX11 125 4 7 := ⟨(RX4, TX4, 12), rfl, by decide, rfl, uw_4, wm_99⟩
theorem wm_101 : (Cond.fieldLink "SmokeRings" (128 : Nat) "SmokeRings$Night" "thick" "[I") ∈ gW := mem_t1 101 (by decide +kernel) (by decide +kernel)
theorem fl_RX11_128 : sr_FL RX11 128 4 8 := ⟨(RX4, TX4, 12), rfl, by decide, rfl, uw_4, wm_101⟩
theorem wm_103 : (Cond.fieldLink "SmokeRings" (131 : Nat) "SmokeRings$Night" "kind" "[I") ∈ gW := mem_t1 103 (by decide +kernel) (by decide +kernel)
theorem fl_RX11_131 : sr_FL RX11 131 4 9 := ⟨(RX4, TX4, 12), rfl, by decide, rfl, uw_4, wm_103⟩
theorem wm_108 : (Cond.fieldLink "SmokeRings" (134 : Nat) "SmokeRings$Night" "wind" "[I") ∈ gW := mem_t1 108 (by decide +kernel) (by decide +kernel)
theorem fl_RX11_134 : sr_FL RX11 134 4 10 := ⟨(RX4, TX4, 12), rfl, by decide, rfl, uw_4, wm_108⟩
theorem wm_112 : (Cond.fieldLink "SmokeRings" (137 : Nat) "SmokeRings$Night" "widens" "I") ∈ gW := mem_t1 112 (by decide +kernel) (by decide +kernel)
theorem fl_RX11_137 : sr_FL RX11 137 4 11 := ⟨(RX4, TX4, 12), rfl, by decide, rfl, uw_4, wm_112⟩
theorem fp_RX11_137 : sr_FP RX11 137 4 11 := ⟨(RX4, TX4, 12), tyX4, rfl, by decide, rfl, uw_4, wm_112, tyX4_ok, nmX4, rfl, Or.inl ⟨rfl, rfl⟩⟩
theorem wm_67 : (Cond.fieldLink "SmokeRings" (144 : Nat) "SmokeRings$Night" "rings" "I") ∈ gW := mem_t1 67 (by decide +kernel) (by decide +kernel)
theorem fl_RX11_144 : sr_FL RX11 144 4 0 := ⟨(RX4, TX4, 12), rfl, by decide, rfl, uw_4, wm_67⟩
theorem fp_RX11_144 : sr_FP RX11 144 4 0 := ⟨(RX4, TX4, 12), tyX4, rfl, by decide, rfl, uw_4, wm_67, tyX4_ok, nmX4, rfl, Or.inl ⟨rfl, rfl⟩⟩
theorem wm_73 : (Cond.fieldLink "SmokeRings" (154 : Nat) "SmokeRings$Night" "blown" "[I") ∈ gW := mem_t1 73 (by decide +kernel) (by decide +kernel)
theorem fl_RX11_154 : sr_FL RX11 154 4 1 := ⟨(RX4, TX4, 12), rfl, by decide, rfl, uw_4, wm_73⟩
theorem wm_77 : (Cond.fieldLink "SmokeRings" (157 : Nat) "SmokeRings$Night" "from" "[I") ∈ gW := mem_t1 77 (by decide +kernel) (by decide +kernel)
theorem fl_RX11_157 : sr_FL RX11 157 4 2 := ⟨(RX4, TX4, 12), rfl, by decide, rfl, uw_4, wm_77⟩
theorem wm_81 : (Cond.fieldLink "SmokeRings" (160 : Nat) "SmokeRings$Night" "way" "[I") ∈ gW := mem_t1 81 (by decide +kernel) (by decide +kernel)
theorem fl_RX11_160 : sr_FL RX11 160 4 3 := ⟨(RX4, TX4, 12), rfl, by decide, rfl, uw_4, wm_81⟩
theorem wm_85 : (Cond.fieldLink "SmokeRings" (163 : Nat) "SmokeRings$Night" "breath" "[I") ∈ gW := mem_t1 85 (by decide +kernel) (by decide +kernel)
theorem fl_RX11_163 : sr_FL RX11 163 4 4 := ⟨(RX4, TX4, 12), rfl, by decide, rfl, uw_4, wm_85⟩
theorem wm_88 : (Cond.fieldLink "SmokeRings" (166 : Nat) "SmokeRings$Night" "whom" "[I") ∈ gW := mem_t1 88 (by decide +kernel) (by decide +kernel)
theorem fl_RX11_166 : sr_FL RX11 166 4 5 := ⟨(RX4, TX4, 12), rfl, by decide, rfl, uw_4, wm_88⟩
theorem wm_258 : (Cond.fieldLink "SmokeRings" (177 : Nat) "SmokeRings$Sheet" "length" "I") ∈ gW := mem_t2 18 (by decide +kernel) (by decide +kernel)
theorem fl_RX11_177 : sr_FL RX11 177 7 1 := ⟨(RX7, TX7, 3), rfl, by decide, rfl, uw_7, wm_258⟩
theorem fp_RX11_177 : sr_FP RX11 177 7 1 := ⟨(RX7, TX7, 3), tyX7, rfl, by decide, rfl, uw_7, wm_258, tyX7_ok, nmX7, rfl, Or.inl ⟨rfl, rfl⟩⟩
theorem wm_157 : (Cond.fieldLink "SmokeRings" (188 : Nat) "SmokeRings$Play" "boundBy" "[I") ∈ gW := mem_t1 157 (by decide +kernel) (by decide +kernel)
theorem fl_RX11_188 : sr_FL RX11 188 6 5 := ⟨(RX6, TX6, 13), rfl, by decide, rfl, uw_6, wm_157⟩
theorem wm_159 : (Cond.fieldLink "SmokeRings" (191 : Nat) "SmokeRings$Play" "boundIn" "[I") ∈ gW := mem_t1 159 (by decide +kernel) (by decide +kernel)
theorem fl_RX11_191 : sr_FL RX11 191 6 6 := ⟨(RX6, TX6, 13), rfl, by decide, rfl, uw_6, wm_159⟩
theorem wm_162 : (Cond.fieldLink "SmokeRings" (194 : Nat) "SmokeRings$Play" "boundTo" "[I") ∈ gW := mem_t1 162 (by decide +kernel) (by decide +kernel)
theorem fl_RX11_194 : sr_FL RX11 194 6 7 := ⟨(RX6, TX6, 13), rfl, by decide, rfl, uw_6, wm_162⟩
theorem wm_168 : (Cond.fieldLink "SmokeRings" (204 : Nat) "SmokeRings$Play" "pairs" "I") ∈ gW := mem_t1 168 (by decide +kernel) (by decide +kernel)
theorem fl_RX11_204 : sr_FL RX11 204 6 9 := ⟨(RX6, TX6, 13), rfl, by decide, rfl, uw_6, wm_168⟩
theorem fp_RX11_204 : sr_FP RX11 204 6 9 := ⟨(RX6, TX6, 13), tyX6, rfl, by decide, rfl, uw_6, wm_168, tyX6_ok, nmX6, rfl, Or.inl ⟨rfl, rfl⟩⟩
theorem wm_170 : (Cond.fieldLink "SmokeRings" (207 : Nat) "SmokeRings$Play" "firstPair" "I") ∈ gW := mem_t1 170 (by decide +kernel) (by decide +kernel)
theorem fl_RX11_207 : sr_FL RX11 207 6 10 := ⟨(RX6, TX6, 13), rfl, by decide, rfl, uw_6, wm_170⟩
theorem fp_RX11_207 : sr_FP RX11 207 6 10 := ⟨(RX6, TX6, 13), tyX6, rfl, by decide, rfl, uw_6, wm_170, tyX6_ok, nmX6, rfl, Or.inl ⟨rfl, rfl⟩⟩
theorem wm_147 : (Cond.fieldLink "SmokeRings" (210 : Nat) "SmokeRings$Play" "state" "[I") ∈ gW := mem_t1 147 (by decide +kernel) (by decide +kernel)
theorem fl_RX11_210 : sr_FL RX11 210 6 1 := ⟨(RX6, TX6, 13), rfl, by decide, rfl, uw_6, wm_147⟩
theorem wm_95 : (Cond.fieldLink "SmokeRings" (218 : Nat) "SmokeRings$Night" "things" "I") ∈ gW := mem_t1 95 (by decide +kernel) (by decide +kernel)
theorem fl_RX11_218 : sr_FL RX11 218 4 6 := ⟨(RX4, TX4, 12), rfl, by decide, rfl, uw_4, wm_95⟩
theorem fp_RX11_218 : sr_FP RX11 218 4 6 := ⟨(RX4, TX4, 12), tyX4, rfl, by decide, rfl, uw_4, wm_95, tyX4_ok, nmX4, rfl, Or.inl ⟨rfl, rfl⟩⟩
theorem wm_295 : (Cond.fieldLink "SmokeRings" (228 : Nat) "SmokeRings$Plans" "aimWay" "I") ∈ gW := mem_t2 55 (by decide +kernel) (by decide +kernel)
theorem fl_RX11_228 : sr_FL RX11 228 5 4 := ⟨(RX5, TX5, 10), rfl, by decide, rfl, uw_5, wm_295⟩
theorem fp_RX11_228 : sr_FP RX11 228 5 4 := ⟨(RX5, TX5, 10), tyX5, rfl, by decide, rfl, uw_5, wm_295, tyX5_ok, nmX5, rfl, Or.inl ⟨rfl, rfl⟩⟩
theorem wm_297 : (Cond.fieldLink "SmokeRings" (231 : Nat) "SmokeRings$Plans" "aimBreath" "I") ∈ gW := mem_t2 57 (by decide +kernel) (by decide +kernel)
theorem fl_RX11_231 : sr_FL RX11 231 5 5 := ⟨(RX5, TX5, 10), rfl, by decide, rfl, uw_5, wm_297⟩
theorem fp_RX11_231 : sr_FP RX11 231 5 5 := ⟨(RX5, TX5, 10), tyX5, rfl, by decide, rfl, uw_5, wm_297, tyX5_ok, nmX5, rfl, Or.inl ⟨rfl, rfl⟩⟩
theorem wm_299 : (Cond.fieldLink "SmokeRings" (234 : Nat) "SmokeRings$Plans" "aimMost" "I") ∈ gW := mem_t2 59 (by decide +kernel) (by decide +kernel)
theorem fl_RX11_234 : sr_FL RX11 234 5 6 := ⟨(RX5, TX5, 10), rfl, by decide, rfl, uw_5, wm_299⟩
theorem fp_RX11_234 : sr_FP RX11 234 5 6 := ⟨(RX5, TX5, 10), tyX5, rfl, by decide, rfl, uw_5, wm_299, tyX5_ok, nmX5, rfl, Or.inl ⟨rfl, rfl⟩⟩
theorem wm_305 : (Cond.fieldLink "SmokeRings" (243 : Nat) "SmokeRings$Plans" "few" "LSmokeRings$Few;") ∈ gW := mem_t2 65 (by decide +kernel) (by decide +kernel)
theorem fl_RX11_243 : sr_FL RX11 243 5 9 := ⟨(RX5, TX5, 10), rfl, by decide, rfl, uw_5, wm_305⟩
theorem wm_301 : (Cond.fieldLink "SmokeRings" (255 : Nat) "SmokeRings$Plans" "calmStep" "I") ∈ gW := mem_t2 61 (by decide +kernel) (by decide +kernel)
theorem fl_RX11_255 : sr_FL RX11 255 5 7 := ⟨(RX5, TX5, 10), rfl, by decide, rfl, uw_5, wm_301⟩
theorem fp_RX11_255 : sr_FP RX11 255 5 7 := ⟨(RX5, TX5, 10), tyX5, rfl, by decide, rfl, uw_5, wm_301, tyX5_ok, nmX5, rfl, Or.inl ⟨rfl, rfl⟩⟩
theorem wm_303 : (Cond.fieldLink "SmokeRings" (258 : Nat) "SmokeRings$Plans" "calmMost" "I") ∈ gW := mem_t2 63 (by decide +kernel) (by decide +kernel)
theorem fl_RX11_258 : sr_FL RX11 258 5 8 := ⟨(RX5, TX5, 10), rfl, by decide, rfl, uw_5, wm_303⟩
theorem fp_RX11_258 : sr_FP RX11 258 5 8 := ⟨(RX5, TX5, 10), tyX5, rfl, by decide, rfl, uw_5, wm_303, tyX5_ok, nmX5, rfl, Or.inl ⟨rfl, rfl⟩⟩
theorem wm_220 : (Cond.fieldLink "SmokeRings" (269 : Nat) "SmokeRings$Sights" "length" "I") ∈ gW := mem_t1 220 (by decide +kernel) (by decide +kernel)
theorem fl_RX11_269 : sr_FL RX11 269 8 2 := ⟨(RX8, TX8, 3), rfl, by decide, rfl, uw_8, wm_220⟩
theorem fp_RX11_269 : sr_FP RX11 269 8 2 := ⟨(RX8, TX8, 3), tyX8, rfl, by decide, rfl, uw_8, wm_220, tyX8_ok, nmX8, rfl, Or.inl ⟨rfl, rfl⟩⟩
theorem wm_370 : (Cond.fieldLink "SmokeRings" (302 : Nat) "SmokeRings$Chances" "lotsBound" "I") ∈ gW := mem_t2 130 (by decide +kernel) (by decide +kernel)
theorem fl_RX11_302 : sr_FL RX11 302 0 8 := ⟨(RX0, TX0, 10), rfl, by decide, rfl, uw_0, wm_370⟩
theorem fp_RX11_302 : sr_FP RX11 302 0 8 := ⟨(RX0, TX0, 10), tyX0, rfl, by decide, rfl, uw_0, wm_370, tyX0_ok, nmX0, rfl, Or.inl ⟨rfl, rfl⟩⟩
theorem wm_372 : (Cond.fieldLink "SmokeRings" (305 : Nat) "SmokeRings$Chances" "lotsBroken" "I") ∈ gW := mem_t2 132 (by decide +kernel) (by decide +kernel)
theorem fl_RX11_305 : sr_FL RX11 305 0 9 := ⟨(RX0, TX0, 10), rfl, by decide, rfl, uw_0, wm_372⟩
theorem fp_RX11_305 : sr_FP RX11 305 0 9 := ⟨(RX0, TX0, 10), tyX0, rfl, by decide, rfl, uw_0, wm_372, tyX0_ok, nmX0, rfl, Or.inl ⟨rfl, rfl⟩⟩
theorem wm_260 : (Cond.fieldLink "SmokeRings" (324 : Nat) "SmokeRings$Sheet" "items" "[I") ∈ gW := mem_t2 20 (by decide +kernel) (by decide +kernel)
theorem fl_RX11_324 : sr_FL RX11 324 7 2 := ⟨(RX7, TX7, 3), rfl, by decide, rfl, uw_7, wm_260⟩
theorem wm_166 : (Cond.fieldLink "SmokeRings" (338 : Nat) "SmokeRings$Play" "boundThings" "I") ∈ gW := mem_t1 166 (by decide +kernel) (by decide +kernel)
theorem fl_RX11_338 : sr_FL RX11 338 6 8 := ⟨(RX6, TX6, 13), rfl, by decide, rfl, uw_6, wm_166⟩
theorem fp_RX11_338 : sr_FP RX11 338 6 8 := ⟨(RX6, TX6, 13), tyX6, rfl, by decide, rfl, uw_6, wm_166, tyX6_ok, nmX6, rfl, Or.inl ⟨rfl, rfl⟩⟩
theorem wm_365 : (Cond.fieldLink "SmokeRings$Chances" (9 : Nat) "SmokeRings$Chances" "windy" "[I") ∈ gW := mem_t2 125 (by decide +kernel) (by decide +kernel)
theorem fl_RX0_9 : sr_FL RX0 9 0 4 := ⟨(RX0, TX0, 10), rfl, by decide, rfl, uw_0, wm_365⟩
theorem wm_366 : (Cond.fieldLink "SmokeRings$Chances" (15 : Nat) "SmokeRings$Chances" "windySteps" "I") ∈ gW := mem_t2 126 (by decide +kernel) (by decide +kernel)
theorem fl_RX0_15 : sr_FL RX0 15 0 5 := ⟨(RX0, TX0, 10), rfl, by decide, rfl, uw_0, wm_366⟩
theorem fp_RX0_15 : sr_FP RX0 15 0 5 := ⟨(RX0, TX0, 10), tyX0, rfl, by decide, rfl, uw_0, wm_366, tyX0_ok, nmX0, rfl, Or.inl ⟨rfl, rfl⟩⟩
theorem wm_367 : (Cond.fieldLink "SmokeRings$Chances" (19 : Nat) "SmokeRings$Chances" "weights" "[J") ∈ gW := mem_t2 127 (by decide +kernel) (by decide +kernel)
theorem fl_RX0_19 : sr_FL RX0 19 0 6 := ⟨(RX0, TX0, 10), rfl, by decide, rfl, uw_0, wm_367⟩
theorem wm_368 : (Cond.fieldLink "SmokeRings$Chances" (23 : Nat) "SmokeRings$Chances" "seed" "I") ∈ gW := mem_t2 128 (by decide +kernel) (by decide +kernel)
theorem fl_RX0_23 : sr_FL RX0 23 0 7 := ⟨(RX0, TX0, 10), rfl, by decide, rfl, uw_0, wm_368⟩
theorem fp_RX0_23 : sr_FP RX0 23 0 7 := ⟨(RX0, TX0, 10), tyX0, rfl, by decide, rfl, uw_0, wm_368, tyX0_ok, nmX0, rfl, Or.inl ⟨rfl, rfl⟩⟩
theorem wm_369 : (Cond.fieldLink "SmokeRings$Chances" (26 : Nat) "SmokeRings$Chances" "lotsBound" "I") ∈ gW := mem_t2 129 (by decide +kernel) (by decide +kernel)
theorem fl_RX0_26 : sr_FL RX0 26 0 8 := ⟨(RX0, TX0, 10), rfl, by decide, rfl, uw_0, wm_369⟩
theorem fp_RX0_26 : sr_FP RX0 26 0 8 := ⟨(RX0, TX0, 10), tyX0, rfl, by decide, rfl, uw_0, wm_369, tyX0_ok, nmX0, rfl, Or.inl ⟨rfl, rfl⟩⟩
theorem wm_371 : (Cond.fieldLink "SmokeRings$Chances" (29 : Nat) "SmokeRings$Chances" "lotsBroken" "I") ∈ gW := mem_t2 131 (by decide +kernel) (by decide +kernel)
theorem fl_RX0_29 : sr_FL RX0 29 0 9 := ⟨(RX0, TX0, 10), rfl, by decide, rfl, uw_0, wm_371⟩
theorem fp_RX0_29 : sr_FP RX0 29 0 9 := ⟨(RX0, TX0, 10), tyX0, rfl, by decide, rfl, uw_0, wm_371, tyX0_ok, nmX0, rfl, Or.inl ⟨rfl, rfl⟩⟩
theorem wm_361 : (Cond.fieldLink "SmokeRings$Chances" (32 : Nat) "SmokeRings$Chances" "valley" "LSmokeRings$Valley;") ∈ gW := mem_t2 121 (by decide +kernel) (by decide +kernel)
theorem fl_RX0_32 : sr_FL RX0 32 0 0 := ⟨(RX0, TX0, 10), rfl, by decide, rfl, uw_0, wm_361⟩
theorem wm_362 : (Cond.fieldLink "SmokeRings$Chances" (36 : Nat) "SmokeRings$Chances" "told" "LSmokeRings$Night;") ∈ gW := mem_t2 122 (by decide +kernel) (by decide +kernel)
theorem fl_RX0_36 : sr_FL RX0 36 0 1 := ⟨(RX0, TX0, 10), rfl, by decide, rfl, uw_0, wm_362⟩
theorem wm_363 : (Cond.fieldLink "SmokeRings$Chances" (40 : Nat) "SmokeRings$Chances" "trial" "LSmokeRings$Night;") ∈ gW := mem_t2 123 (by decide +kernel) (by decide +kernel)
theorem fl_RX0_40 : sr_FL RX0 40 0 2 := ⟨(RX0, TX0, 10), rfl, by decide, rfl, uw_0, wm_363⟩
theorem wm_364 : (Cond.fieldLink "SmokeRings$Chances" (43 : Nat) "SmokeRings$Chances" "play" "LSmokeRings$Play;") ∈ gW := mem_t2 124 (by decide +kernel) (by decide +kernel)
theorem fl_RX0_43 : sr_FL RX0 43 0 3 := ⟨(RX0, TX0, 10), rfl, by decide, rfl, uw_0, wm_364⟩
theorem wm_64 : (Cond.fieldLink "SmokeRings$Chances" (77 : Nat) "SmokeRings$Night" "rings" "I") ∈ gW := mem_t1 64 (by decide +kernel) (by decide +kernel)
theorem fl_RX0_77 : sr_FL RX0 77 4 0 := ⟨(RX4, TX4, 12), rfl, by decide, rfl, uw_4, wm_64⟩
theorem fp_RX0_77 : sr_FP RX0 77 4 0 := ⟨(RX4, TX4, 12), tyX4, rfl, by decide, rfl, uw_4, wm_64, tyX4_ok, nmX4, rfl, Or.inl ⟨rfl, rfl⟩⟩
theorem wm_69 : (Cond.fieldLink "SmokeRings$Chances" (80 : Nat) "SmokeRings$Night" "blown" "[I") ∈ gW := mem_t1 69 (by decide +kernel) (by decide +kernel)
theorem fl_RX0_80 : sr_FL RX0 80 4 1 := ⟨(RX4, TX4, 12), rfl, by decide, rfl, uw_4, wm_69⟩
theorem wm_105 : (Cond.fieldLink "SmokeRings$Chances" (89 : Nat) "SmokeRings$Night" "wind" "[I") ∈ gW := mem_t1 105 (by decide +kernel) (by decide +kernel)
theorem fl_RX0_89 : sr_FL RX0 89 4 10 := ⟨(RX4, TX4, 12), rfl, by decide, rfl, uw_4, wm_105⟩
theorem wm_92 : (Cond.fieldLink "SmokeRings$Chances" (97 : Nat) "SmokeRings$Night" "things" "I") ∈ gW := mem_t1 92 (by decide +kernel) (by decide +kernel)
theorem fl_RX0_97 : sr_FL RX0 97 4 6 := ⟨(RX4, TX4, 12), rfl, by decide, rfl, uw_4, wm_92⟩
theorem fp_RX0_97 : sr_FP RX0 97 4 6 := ⟨(RX4, TX4, 12), tyX4, rfl, by decide, rfl, uw_4, wm_92, tyX4_ok, nmX4, rfl, Or.inl ⟨rfl, rfl⟩⟩
theorem wm_161 : (Cond.fieldLink "SmokeRings$Chances" (100 : Nat) "SmokeRings$Play" "boundTo" "[I") ∈ gW := mem_t1 161 (by decide +kernel) (by decide +kernel)
theorem fl_RX0_100 : sr_FL RX0 100 6 7 := ⟨(RX6, TX6, 13), rfl, by decide, rfl, uw_6, wm_161⟩
theorem wm_40 : (Cond.fieldLink "SmokeRings$Chances" (111 : Nat) "SmokeRings$Valley" "cells" "I") ∈ gW := mem_t1 40 (by decide +kernel) (by decide +kernel)
theorem fl_RX0_111 : sr_FL RX0 111 10 0 := ⟨(RX10, TX10, 3), rfl, by decide, rfl, uw_10, wm_40⟩
theorem fp_RX0_111 : sr_FP RX0 111 10 0 := ⟨(RX10, TX10, 3), tyX10, rfl, by decide, rfl, uw_10, wm_40, tyX10_ok, nmX10, rfl, Or.inl ⟨rfl, rfl⟩⟩
theorem wm_165 : (Cond.fieldLink "SmokeRings$Chances" (123 : Nat) "SmokeRings$Play" "boundThings" "I") ∈ gW := mem_t1 165 (by decide +kernel) (by decide +kernel)
theorem fl_RX0_123 : sr_FL RX0 123 6 8 := ⟨(RX6, TX6, 13), rfl, by decide, rfl, uw_6, wm_165⟩
theorem fp_RX0_123 : sr_FP RX0 123 6 8 := ⟨(RX6, TX6, 13), tyX6, rfl, by decide, rfl, uw_6, wm_165, tyX6_ok, nmX6, rfl, Or.inl ⟨rfl, rfl⟩⟩
theorem wm_206 : (Cond.fieldLink "SmokeRings$Diary" (9 : Nat) "SmokeRings$Diary" "pages" "[I") ∈ gW := mem_t1 206 (by decide +kernel) (by decide +kernel)
theorem fl_RX1_9 : sr_FL RX1 9 1 0 := ⟨(RX1, TX1, 1), rfl, by decide, rfl, uw_1, wm_206⟩
theorem wm_146 : (Cond.fieldLink "SmokeRings$Diary" (15 : Nat) "SmokeRings$Play" "state" "[I") ∈ gW := mem_t1 146 (by decide +kernel) (by decide +kernel)
theorem fl_RX1_15 : sr_FL RX1 15 6 1 := ⟨(RX6, TX6, 13), rfl, by decide, rfl, uw_6, wm_146⟩
theorem wm_149 : (Cond.fieldLink "SmokeRings$Diary" (20 : Nat) "SmokeRings$Play" "cell" "[I") ∈ gW := mem_t1 149 (by decide +kernel) (by decide +kernel)
theorem fl_RX1_20 : sr_FL RX1 20 6 2 := ⟨(RX6, TX6, 13), rfl, by decide, rfl, uw_6, wm_149⟩
theorem wm_151 : (Cond.fieldLink "SmokeRings$Diary" (23 : Nat) "SmokeRings$Play" "width" "[I") ∈ gW := mem_t1 151 (by decide +kernel) (by decide +kernel)
theorem fl_RX1_23 : sr_FL RX1 23 6 3 := ⟨(RX6, TX6, 13), rfl, by decide, rfl, uw_6, wm_151⟩
theorem wm_154 : (Cond.fieldLink "SmokeRings$Diary" (26 : Nat) "SmokeRings$Play" "left" "[I") ∈ gW := mem_t1 154 (by decide +kernel) (by decide +kernel)
theorem fl_RX1_26 : sr_FL RX1 26 6 4 := ⟨(RX6, TX6, 13), rfl, by decide, rfl, uw_6, wm_154⟩
theorem wm_280 : (Cond.fieldLink "SmokeRings$Few" (9 : Nat) "SmokeRings$Few" "size" "I") ∈ gW := mem_t2 40 (by decide +kernel) (by decide +kernel)
theorem fl_RX2_9 : sr_FL RX2 9 2 0 := ⟨(RX2, TX2, 3), rfl, by decide, rfl, uw_2, wm_280⟩
theorem fp_RX2_9 : sr_FP RX2 9 2 0 := ⟨(RX2, TX2, 3), tyX2, rfl, by decide, rfl, uw_2, wm_280, tyX2_ok, nmX2, rfl, Or.inl ⟨rfl, rfl⟩⟩
theorem wm_281 : (Cond.fieldLink "SmokeRings$Few" (15 : Nat) "SmokeRings$Few" "first" "I") ∈ gW := mem_t2 41 (by decide +kernel) (by decide +kernel)
theorem fl_RX2_15 : sr_FL RX2 15 2 1 := ⟨(RX2, TX2, 3), rfl, by decide, rfl, uw_2, wm_281⟩
theorem fp_RX2_15 : sr_FP RX2 15 2 1 := ⟨(RX2, TX2, 3), tyX2, rfl, by decide, rfl, uw_2, wm_281, tyX2_ok, nmX2, rfl, Or.inl ⟨rfl, rfl⟩⟩
theorem wm_282 : (Cond.fieldLink "SmokeRings$Few" (18 : Nat) "SmokeRings$Few" "second" "I") ∈ gW := mem_t2 42 (by decide +kernel) (by decide +kernel)
theorem fl_RX2_18 : sr_FL RX2 18 2 2 := ⟨(RX2, TX2, 3), rfl, by decide, rfl, uw_2, wm_282⟩
theorem fp_RX2_18 : sr_FP RX2 18 2 2 := ⟨(RX2, TX2, 3), tyX2, rfl, by decide, rfl, uw_2, wm_282, tyX2_ok, nmX2, rfl, Or.inl ⟨rfl, rfl⟩⟩
theorem wm_338 : (Cond.fieldLink "SmokeRings$Guesses" (9 : Nat) "SmokeRings$Guesses" "whence" "J") ∈ gW := mem_t2 98 (by decide +kernel) (by decide +kernel)
theorem fl_RX3_9 : sr_FL RX3 9 3 5 := ⟨(RX3, TX3, 7), rfl, by decide, rfl, uw_3, wm_338⟩
theorem fp_RX3_9 : sr_FP RX3 9 3 5 := ⟨(RX3, TX3, 7), tyX3, rfl, by decide, rfl, uw_3, wm_338, tyX3_ok, nmX3, rfl, Or.inr (Or.inl ⟨rfl, rfl⟩)⟩
theorem wm_339 : (Cond.fieldLink "SmokeRings$Guesses" (15 : Nat) "SmokeRings$Guesses" "tally" "[I") ∈ gW := mem_t2 99 (by decide +kernel) (by decide +kernel)
theorem fl_RX3_15 : sr_FL RX3 15 3 6 := ⟨(RX3, TX3, 7), rfl, by decide, rfl, uw_3, wm_339⟩
theorem wm_333 : (Cond.fieldLink "SmokeRings$Guesses" (19 : Nat) "SmokeRings$Guesses" "valley" "LSmokeRings$Valley;") ∈ gW := mem_t2 93 (by decide +kernel) (by decide +kernel)
theorem fl_RX3_19 : sr_FL RX3 19 3 0 := ⟨(RX3, TX3, 7), rfl, by decide, rfl, uw_3, wm_333⟩
theorem wm_334 : (Cond.fieldLink "SmokeRings$Guesses" (23 : Nat) "SmokeRings$Guesses" "told" "LSmokeRings$Night;") ∈ gW := mem_t2 94 (by decide +kernel) (by decide +kernel)
theorem fl_RX3_23 : sr_FL RX3 23 3 1 := ⟨(RX3, TX3, 7), rfl, by decide, rfl, uw_3, wm_334⟩
theorem wm_335 : (Cond.fieldLink "SmokeRings$Guesses" (27 : Nat) "SmokeRings$Guesses" "trial" "LSmokeRings$Night;") ∈ gW := mem_t2 95 (by decide +kernel) (by decide +kernel)
theorem fl_RX3_27 : sr_FL RX3 27 3 2 := ⟨(RX3, TX3, 7), rfl, by decide, rfl, uw_3, wm_335⟩
theorem wm_336 : (Cond.fieldLink "SmokeRings$Guesses" (30 : Nat) "SmokeRings$Guesses" "play" "LSmokeRings$Play;") ∈ gW := mem_t2 96 (by decide +kernel) (by decide +kernel)
theorem fl_RX3_30 : sr_FL RX3 30 3 3 := ⟨(RX3, TX3, 7), rfl, by decide, rfl, uw_3, wm_336⟩
theorem wm_337 : (Cond.fieldLink "SmokeRings$Guesses" (34 : Nat) "SmokeRings$Guesses" "sights" "LSmokeRings$Sights;") ∈ gW := mem_t2 97 (by decide +kernel) (by decide +kernel)
theorem fl_RX3_34 : sr_FL RX3 34 3 4 := ⟨(RX3, TX3, 7), rfl, by decide, rfl, uw_3, wm_337⟩
theorem wm_219 : (Cond.fieldLink "SmokeRings$Guesses" (38 : Nat) "SmokeRings$Sights" "length" "I") ∈ gW := mem_t1 219 (by decide +kernel) (by decide +kernel)
theorem fl_RX3_38 : sr_FL RX3 38 8 2 := ⟨(RX8, TX8, 3), rfl, by decide, rfl, uw_8, wm_219⟩
theorem fp_RX3_38 : sr_FP RX3 38 8 2 := ⟨(RX8, TX8, 3), tyX8, rfl, by decide, rfl, uw_8, wm_219, tyX8_ok, nmX8, rfl, Or.inl ⟨rfl, rfl⟩⟩
theorem wm_65 : (Cond.fieldLink "SmokeRings$Guesses" (59 : Nat) "SmokeRings$Night" "rings" "I") ∈ gW := mem_t1 65 (by decide +kernel) (by decide +kernel)
theorem fl_RX3_59 : sr_FL RX3 59 4 0 := ⟨(RX4, TX4, 12), rfl, by decide, rfl, uw_4, wm_65⟩
theorem fp_RX3_59 : sr_FP RX3 59 4 0 := ⟨(RX4, TX4, 12), tyX4, rfl, by decide, rfl, uw_4, wm_65, tyX4_ok, nmX4, rfl, Or.inl ⟨rfl, rfl⟩⟩
theorem wm_70 : (Cond.fieldLink "SmokeRings$Guesses" (62 : Nat) "SmokeRings$Night" "blown" "[I") ∈ gW := mem_t1 70 (by decide +kernel) (by decide +kernel)
theorem fl_RX3_62 : sr_FL RX3 62 4 1 := ⟨(RX4, TX4, 12), rfl, by decide, rfl, uw_4, wm_70⟩
theorem wm_37 : (Cond.fieldLink "SmokeRings$Guesses" (69 : Nat) "SmokeRings$Valley" "cells" "I") ∈ gW := mem_t1 37 (by decide +kernel) (by decide +kernel)
theorem fl_RX3_69 : sr_FL RX3 69 10 0 := ⟨(RX10, TX10, 3), rfl, by decide, rfl, uw_10, wm_37⟩
theorem fp_RX3_69 : sr_FP RX3 69 10 0 := ⟨(RX10, TX10, 3), tyX10, rfl, by decide, rfl, uw_10, wm_37, tyX10_ok, nmX10, rfl, Or.inl ⟨rfl, rfl⟩⟩
theorem wm_75 : (Cond.fieldLink "SmokeRings$Guesses" (74 : Nat) "SmokeRings$Night" "from" "[I") ∈ gW := mem_t1 75 (by decide +kernel) (by decide +kernel)
theorem fl_RX3_74 : sr_FL RX3 74 4 2 := ⟨(RX4, TX4, 12), rfl, by decide, rfl, uw_4, wm_75⟩
theorem wm_111 : (Cond.fieldLink "SmokeRings$Guesses" (83 : Nat) "SmokeRings$Night" "widens" "I") ∈ gW := mem_t1 111 (by decide +kernel) (by decide +kernel)
theorem fl_RX3_83 : sr_FL RX3 83 4 11 := ⟨(RX4, TX4, 12), rfl, by decide, rfl, uw_4, wm_111⟩
theorem fp_RX3_83 : sr_FP RX3 83 4 11 := ⟨(RX4, TX4, 12), tyX4, rfl, by decide, rfl, uw_4, wm_111, tyX4_ok, nmX4, rfl, Or.inl ⟨rfl, rfl⟩⟩
theorem wm_93 : (Cond.fieldLink "SmokeRings$Guesses" (95 : Nat) "SmokeRings$Night" "things" "I") ∈ gW := mem_t1 93 (by decide +kernel) (by decide +kernel)
theorem fl_RX3_95 : sr_FL RX3 95 4 6 := ⟨(RX4, TX4, 12), rfl, by decide, rfl, uw_4, wm_93⟩
theorem fp_RX3_95 : sr_FP RX3 95 4 6 := ⟨(RX4, TX4, 12), tyX4, rfl, by decide, rfl, uw_4, wm_93, tyX4_ok, nmX4, rfl, Or.inl ⟨rfl, rfl⟩⟩
theorem wm_62 : (Cond.fieldLink "SmokeRings$Night" (9 : Nat) "SmokeRings$Night" "rings" "I") ∈ gW := mem_t1 62 (by decide +kernel) (by decide +kernel)
theorem fl_RX4_9 : sr_FL RX4 9 4 0 := ⟨(RX4, TX4, 12), rfl, by decide, rfl, uw_4, wm_62⟩
theorem fp_RX4_9 : sr_FP RX4 9 4 0 := ⟨(RX4, TX4, 12), tyX4, rfl, by decide, rfl, uw_4, wm_62, tyX4_ok, nmX4, rfl, Or.inl ⟨rfl, rfl⟩⟩
theorem wm_68 : (Cond.fieldLink "SmokeRings$Night" (15 : Nat) "SmokeRings$Night" "blown" "[I") ∈ gW := mem_t1 68 (by decide +kernel) (by decide +kernel)
theorem fl_RX4_15 : sr_FL RX4 15 4 1 := ⟨(RX4, TX4, 12), rfl, by decide, rfl, uw_4, wm_68⟩
theorem wm_74 : (Cond.fieldLink "SmokeRings$Night" (19 : Nat) "SmokeRings$Night" "from" "[I") ∈ gW := mem_t1 74 (by decide +kernel) (by decide +kernel)
theorem fl_RX4_19 : sr_FL RX4 19 4 2 := ⟨(RX4, TX4, 12), rfl, by decide, rfl, uw_4, wm_74⟩
theorem wm_78 : (Cond.fieldLink "SmokeRings$Night" (22 : Nat) "SmokeRings$Night" "way" "[I") ∈ gW := mem_t1 78 (by decide +kernel) (by decide +kernel)
theorem fl_RX4_22 : sr_FL RX4 22 4 3 := ⟨(RX4, TX4, 12), rfl, by decide, rfl, uw_4, wm_78⟩
theorem wm_82 : (Cond.fieldLink "SmokeRings$Night" (25 : Nat) "SmokeRings$Night" "breath" "[I") ∈ gW := mem_t1 82 (by decide +kernel) (by decide +kernel)
theorem fl_RX4_25 : sr_FL RX4 25 4 4 := ⟨(RX4, TX4, 12), rfl, by decide, rfl, uw_4, wm_82⟩
theorem wm_86 : (Cond.fieldLink "SmokeRings$Night" (28 : Nat) "SmokeRings$Night" "whom" "[I") ∈ gW := mem_t1 86 (by decide +kernel) (by decide +kernel)
theorem fl_RX4_28 : sr_FL RX4 28 4 5 := ⟨(RX4, TX4, 12), rfl, by decide, rfl, uw_4, wm_86⟩
theorem wm_89 : (Cond.fieldLink "SmokeRings$Night" (31 : Nat) "SmokeRings$Night" "things" "I") ∈ gW := mem_t1 89 (by decide +kernel) (by decide +kernel)
theorem fl_RX4_31 : sr_FL RX4 31 4 6 := ⟨(RX4, TX4, 12), rfl, by decide, rfl, uw_4, wm_89⟩
theorem fp_RX4_31 : sr_FP RX4 31 4 6 := ⟨(RX4, TX4, 12), tyX4, rfl, by decide, rfl, uw_4, wm_89, tyX4_ok, nmX4, rfl, Or.inl ⟨rfl, rfl⟩⟩
theorem wm_96 : (Cond.fieldLink "SmokeRings$Night" (34 : Nat) "SmokeRings$Night" "stands" "[I") ∈ gW := mem_t1 96 (by decide +kernel) (by decide +kernel)
theorem fl_RX4_34 : sr_FL RX4 34 4 7 := ⟨(RX4, TX4, 12), rfl, by decide, rfl, uw_4, wm_96⟩
theorem wm_100 : (Cond.fieldLink "SmokeRings$Night" (37 : Nat) "SmokeRings$Night" "thick" "[I") ∈ gW := mem_t1 100 (by decide +kernel) (by decide +kernel)
theorem fl_RX4_37 : sr_FL RX4 37 4 8 := ⟨(RX4, TX4, 12), rfl, by decide, rfl, uw_4, wm_100⟩
theorem wm_102 : (Cond.fieldLink "SmokeRings$Night" (40 : Nat) "SmokeRings$Night" "kind" "[I") ∈ gW := mem_t1 102 (by decide +kernel) (by decide +kernel)
theorem fl_RX4_40 : sr_FL RX4 40 4 9 := ⟨(RX4, TX4, 12), rfl, by decide, rfl, uw_4, wm_102⟩
theorem wm_104 : (Cond.fieldLink "SmokeRings$Night" (43 : Nat) "SmokeRings$Night" "wind" "[I") ∈ gW := mem_t1 104 (by decide +kernel) (by decide +kernel)
theorem fl_RX4_43 : sr_FL RX4 43 4 10 := ⟨(RX4, TX4, 12), rfl, by decide, rfl, uw_4, wm_104⟩
theorem wm_109 : (Cond.fieldLink "SmokeRings$Night" (46 : Nat) "SmokeRings$Night" "widens" "I") ∈ gW := mem_t1 109 (by decide +kernel) (by decide +kernel)
theorem fl_RX4_46 : sr_FL RX4 46 4 11 := ⟨(RX4, TX4, 12), rfl, by decide, rfl, uw_4, wm_109⟩
theorem fp_RX4_46 : sr_FP RX4 46 4 11 := ⟨(RX4, TX4, 12), tyX4, rfl, by decide, rfl, uw_4, wm_109, tyX4_ok, nmX4, rfl, Or.inl ⟨rfl, rfl⟩⟩
theorem wm_244 : (Cond.fieldLink "SmokeRings$Night" (65 : Nat) "SmokeRings$Text" "length" "I") ∈ gW := mem_t2 4 (by decide +kernel) (by decide +kernel)
theorem fl_RX4_65 : sr_FL RX4 65 9 1 := ⟨(RX9, TX9, 2), rfl, by decide, rfl, uw_9, wm_244⟩
theorem fp_RX4_65 : sr_FP RX4 65 9 1 := ⟨(RX9, TX9, 2), tyX9, rfl, by decide, rfl, uw_9, wm_244, tyX9_ok, nmX9, rfl, Or.inl ⟨rfl, rfl⟩⟩
theorem wm_294 : (Cond.fieldLink "SmokeRings$Plans" (9 : Nat) "SmokeRings$Plans" "aimWay" "I") ∈ gW := mem_t2 54 (by decide +kernel) (by decide +kernel)
theorem fl_RX5_9 : sr_FL RX5 9 5 4 := ⟨(RX5, TX5, 10), rfl, by decide, rfl, uw_5, wm_294⟩
theorem fp_RX5_9 : sr_FP RX5 9 5 4 := ⟨(RX5, TX5, 10), tyX5, rfl, by decide, rfl, uw_5, wm_294, tyX5_ok, nmX5, rfl, Or.inl ⟨rfl, rfl⟩⟩
theorem wm_296 : (Cond.fieldLink "SmokeRings$Plans" (15 : Nat) "SmokeRings$Plans" "aimBreath" "I") ∈ gW := mem_t2 56 (by decide +kernel) (by decide +kernel)
theorem fl_RX5_15 : sr_FL RX5 15 5 5 := ⟨(RX5, TX5, 10), rfl, by decide, rfl, uw_5, wm_296⟩
theorem fp_RX5_15 : sr_FP RX5 15 5 5 := ⟨(RX5, TX5, 10), tyX5, rfl, by decide, rfl, uw_5, wm_296, tyX5_ok, nmX5, rfl, Or.inl ⟨rfl, rfl⟩⟩
theorem wm_298 : (Cond.fieldLink "SmokeRings$Plans" (18 : Nat) "SmokeRings$Plans" "aimMost" "I") ∈ gW := mem_t2 58 (by decide +kernel) (by decide +kernel)
theorem fl_RX5_18 : sr_FL RX5 18 5 6 := ⟨(RX5, TX5, 10), rfl, by decide, rfl, uw_5, wm_298⟩
theorem fp_RX5_18 : sr_FP RX5 18 5 6 := ⟨(RX5, TX5, 10), tyX5, rfl, by decide, rfl, uw_5, wm_298, tyX5_ok, nmX5, rfl, Or.inl ⟨rfl, rfl⟩⟩
theorem wm_300 : (Cond.fieldLink "SmokeRings$Plans" (21 : Nat) "SmokeRings$Plans" "calmStep" "I") ∈ gW := mem_t2 60 (by decide +kernel) (by decide +kernel)
theorem fl_RX5_21 : sr_FL RX5 21 5 7 := ⟨(RX5, TX5, 10), rfl, by decide, rfl, uw_5, wm_300⟩
theorem fp_RX5_21 : sr_FP RX5 21 5 7 := ⟨(RX5, TX5, 10), tyX5, rfl, by decide, rfl, uw_5, wm_300, tyX5_ok, nmX5, rfl, Or.inl ⟨rfl, rfl⟩⟩
theorem wm_302 : (Cond.fieldLink "SmokeRings$Plans" (24 : Nat) "SmokeRings$Plans" "calmMost" "I") ∈ gW := mem_t2 62 (by decide +kernel) (by decide +kernel)
theorem fl_RX5_24 : sr_FL RX5 24 5 8 := ⟨(RX5, TX5, 10), rfl, by decide, rfl, uw_5, wm_302⟩
theorem fp_RX5_24 : sr_FP RX5 24 5 8 := ⟨(RX5, TX5, 10), tyX5, rfl, by decide, rfl, uw_5, wm_302, tyX5_ok, nmX5, rfl, Or.inl ⟨rfl, rfl⟩⟩
theorem wm_304 : (Cond.fieldLink "SmokeRings$Plans" (30 : Nat) "SmokeRings$Plans" "few" "LSmokeRings$Few;") ∈ gW := mem_t2 64 (by decide +kernel) (by decide +kernel)
theorem fl_RX5_30 : sr_FL RX5 30 5 9 := ⟨(RX5, TX5, 10), rfl, by decide, rfl, uw_5, wm_304⟩
theorem wm_290 : (Cond.fieldLink "SmokeRings$Plans" (34 : Nat) "SmokeRings$Plans" "valley" "LSmokeRings$Valley;") ∈ gW := mem_t2 50 (by decide +kernel) (by decide +kernel)
theorem fl_RX5_34 : sr_FL RX5 34 5 0 := ⟨(RX5, TX5, 10), rfl, by decide, rfl, uw_5, wm_290⟩
theorem wm_291 : (Cond.fieldLink "SmokeRings$Plans" (38 : Nat) "SmokeRings$Plans" "told" "LSmokeRings$Night;") ∈ gW := mem_t2 51 (by decide +kernel) (by decide +kernel)
theorem fl_RX5_38 : sr_FL RX5 38 5 1 := ⟨(RX5, TX5, 10), rfl, by decide, rfl, uw_5, wm_291⟩
theorem wm_292 : (Cond.fieldLink "SmokeRings$Plans" (42 : Nat) "SmokeRings$Plans" "trial" "LSmokeRings$Night;") ∈ gW := mem_t2 52 (by decide +kernel) (by decide +kernel)
theorem fl_RX5_42 : sr_FL RX5 42 5 2 := ⟨(RX5, TX5, 10), rfl, by decide, rfl, uw_5, wm_292⟩
theorem wm_293 : (Cond.fieldLink "SmokeRings$Plans" (45 : Nat) "SmokeRings$Plans" "play" "LSmokeRings$Play;") ∈ gW := mem_t2 53 (by decide +kernel) (by decide +kernel)
theorem fl_RX5_45 : sr_FL RX5 45 5 3 := ⟨(RX5, TX5, 10), rfl, by decide, rfl, uw_5, wm_293⟩
theorem wm_83 : (Cond.fieldLink "SmokeRings$Plans" (55 : Nat) "SmokeRings$Night" "breath" "[I") ∈ gW := mem_t1 83 (by decide +kernel) (by decide +kernel)
theorem fl_RX5_55 : sr_FL RX5 55 4 4 := ⟨(RX4, TX4, 12), rfl, by decide, rfl, uw_4, wm_83⟩
theorem wm_156 : (Cond.fieldLink "SmokeRings$Plans" (64 : Nat) "SmokeRings$Play" "boundBy" "[I") ∈ gW := mem_t1 156 (by decide +kernel) (by decide +kernel)
theorem fl_RX5_64 : sr_FL RX5 64 6 5 := ⟨(RX6, TX6, 13), rfl, by decide, rfl, uw_6, wm_156⟩
theorem wm_153 : (Cond.fieldLink "SmokeRings$Plans" (67 : Nat) "SmokeRings$Play" "left" "[I") ∈ gW := mem_t1 153 (by decide +kernel) (by decide +kernel)
theorem fl_RX5_67 : sr_FL RX5 67 6 4 := ⟨(RX6, TX6, 13), rfl, by decide, rfl, uw_6, wm_153⟩
theorem wm_79 : (Cond.fieldLink "SmokeRings$Plans" (70 : Nat) "SmokeRings$Night" "way" "[I") ∈ gW := mem_t1 79 (by decide +kernel) (by decide +kernel)
theorem fl_RX5_70 : sr_FL RX5 70 4 3 := ⟨(RX4, TX4, 12), rfl, by decide, rfl, uw_4, wm_79⟩
theorem wm_164 : (Cond.fieldLink "SmokeRings$Plans" (73 : Nat) "SmokeRings$Play" "boundThings" "I") ∈ gW := mem_t1 164 (by decide +kernel) (by decide +kernel)
theorem fl_RX5_73 : sr_FL RX5 73 6 8 := ⟨(RX6, TX6, 13), rfl, by decide, rfl, uw_6, wm_164⟩
theorem fp_RX5_73 : sr_FP RX5 73 6 8 := ⟨(RX6, TX6, 13), tyX6, rfl, by decide, rfl, uw_6, wm_164, tyX6_ok, nmX6, rfl, Or.inl ⟨rfl, rfl⟩⟩
theorem wm_36 : (Cond.fieldLink "SmokeRings$Plans" (76 : Nat) "SmokeRings$Valley" "cells" "I") ∈ gW := mem_t1 36 (by decide +kernel) (by decide +kernel)
theorem fl_RX5_76 : sr_FL RX5 76 10 0 := ⟨(RX10, TX10, 3), rfl, by decide, rfl, uw_10, wm_36⟩
theorem fp_RX5_76 : sr_FP RX5 76 10 0 := ⟨(RX10, TX10, 3), tyX10, rfl, by decide, rfl, uw_10, wm_36, tyX10_ok, nmX10, rfl, Or.inl ⟨rfl, rfl⟩⟩
theorem wm_98 : (Cond.fieldLink "SmokeRings$Plans" (81 : Nat) "SmokeRings$Night" "stands" "[I") ∈ gW := mem_t1 98 (by decide +kernel) (by decide +kernel)
theorem fl_RX5_81 : sr_FL RX5 81 4 7 := ⟨(RX4, TX4, 12), rfl, by decide, rfl, uw_4, wm_98⟩
theorem wm_66 : (Cond.fieldLink "SmokeRings$Plans" (95 : Nat) "SmokeRings$Night" "rings" "I") ∈ gW := mem_t1 66 (by decide +kernel) (by decide +kernel)
theorem fl_RX5_95 : sr_FL RX5 95 4 0 := ⟨(RX4, TX4, 12), rfl, by decide, rfl, uw_4, wm_66⟩
theorem fp_RX5_95 : sr_FP RX5 95 4 0 := ⟨(RX4, TX4, 12), tyX4, rfl, by decide, rfl, uw_4, wm_66, tyX4_ok, nmX4, rfl, Or.inl ⟨rfl, rfl⟩⟩
theorem wm_72 : (Cond.fieldLink "SmokeRings$Plans" (98 : Nat) "SmokeRings$Night" "blown" "[I") ∈ gW := mem_t1 72 (by decide +kernel) (by decide +kernel)
theorem fl_RX5_98 : sr_FL RX5 98 4 1 := ⟨(RX4, TX4, 12), rfl, by decide, rfl, uw_4, wm_72⟩
theorem wm_107 : (Cond.fieldLink "SmokeRings$Plans" (101 : Nat) "SmokeRings$Night" "wind" "[I") ∈ gW := mem_t1 107 (by decide +kernel) (by decide +kernel)
theorem fl_RX5_101 : sr_FL RX5 101 4 10 := ⟨(RX4, TX4, 12), rfl, by decide, rfl, uw_4, wm_107⟩
theorem wm_94 : (Cond.fieldLink "SmokeRings$Plans" (111 : Nat) "SmokeRings$Night" "things" "I") ∈ gW := mem_t1 94 (by decide +kernel) (by decide +kernel)
theorem fl_RX5_111 : sr_FL RX5 111 4 6 := ⟨(RX4, TX4, 12), rfl, by decide, rfl, uw_4, wm_94⟩
theorem fp_RX5_111 : sr_FP RX5 111 4 6 := ⟨(RX4, TX4, 12), tyX4, rfl, by decide, rfl, uw_4, wm_94, tyX4_ok, nmX4, rfl, Or.inl ⟨rfl, rfl⟩⟩
theorem wm_145 : (Cond.fieldLink "SmokeRings$Play" (9 : Nat) "SmokeRings$Play" "state" "[I") ∈ gW := mem_t1 145 (by decide +kernel) (by decide +kernel)
theorem fl_RX6_9 : sr_FL RX6 9 6 1 := ⟨(RX6, TX6, 13), rfl, by decide, rfl, uw_6, wm_145⟩
theorem wm_148 : (Cond.fieldLink "SmokeRings$Play" (15 : Nat) "SmokeRings$Play" "cell" "[I") ∈ gW := mem_t1 148 (by decide +kernel) (by decide +kernel)
theorem fl_RX6_15 : sr_FL RX6 15 6 2 := ⟨(RX6, TX6, 13), rfl, by decide, rfl, uw_6, wm_148⟩
theorem wm_150 : (Cond.fieldLink "SmokeRings$Play" (18 : Nat) "SmokeRings$Play" "width" "[I") ∈ gW := mem_t1 150 (by decide +kernel) (by decide +kernel)
theorem fl_RX6_18 : sr_FL RX6 18 6 3 := ⟨(RX6, TX6, 13), rfl, by decide, rfl, uw_6, wm_150⟩
theorem wm_152 : (Cond.fieldLink "SmokeRings$Play" (21 : Nat) "SmokeRings$Play" "left" "[I") ∈ gW := mem_t1 152 (by decide +kernel) (by decide +kernel)
theorem fl_RX6_21 : sr_FL RX6 21 6 4 := ⟨(RX6, TX6, 13), rfl, by decide, rfl, uw_6, wm_152⟩
theorem wm_155 : (Cond.fieldLink "SmokeRings$Play" (24 : Nat) "SmokeRings$Play" "boundBy" "[I") ∈ gW := mem_t1 155 (by decide +kernel) (by decide +kernel)
theorem fl_RX6_24 : sr_FL RX6 24 6 5 := ⟨(RX6, TX6, 13), rfl, by decide, rfl, uw_6, wm_155⟩
theorem wm_158 : (Cond.fieldLink "SmokeRings$Play" (27 : Nat) "SmokeRings$Play" "boundIn" "[I") ∈ gW := mem_t1 158 (by decide +kernel) (by decide +kernel)
theorem fl_RX6_27 : sr_FL RX6 27 6 6 := ⟨(RX6, TX6, 13), rfl, by decide, rfl, uw_6, wm_158⟩
theorem wm_160 : (Cond.fieldLink "SmokeRings$Play" (30 : Nat) "SmokeRings$Play" "boundTo" "[I") ∈ gW := mem_t1 160 (by decide +kernel) (by decide +kernel)
theorem fl_RX6_30 : sr_FL RX6 30 6 7 := ⟨(RX6, TX6, 13), rfl, by decide, rfl, uw_6, wm_160⟩
theorem wm_163 : (Cond.fieldLink "SmokeRings$Play" (33 : Nat) "SmokeRings$Play" "boundThings" "I") ∈ gW := mem_t1 163 (by decide +kernel) (by decide +kernel)
theorem fl_RX6_33 : sr_FL RX6 33 6 8 := ⟨(RX6, TX6, 13), rfl, by decide, rfl, uw_6, wm_163⟩
theorem fp_RX6_33 : sr_FP RX6 33 6 8 := ⟨(RX6, TX6, 13), tyX6, rfl, by decide, rfl, uw_6, wm_163, tyX6_ok, nmX6, rfl, Or.inl ⟨rfl, rfl⟩⟩
theorem wm_167 : (Cond.fieldLink "SmokeRings$Play" (37 : Nat) "SmokeRings$Play" "pairs" "I") ∈ gW := mem_t1 167 (by decide +kernel) (by decide +kernel)
theorem fl_RX6_37 : sr_FL RX6 37 6 9 := ⟨(RX6, TX6, 13), rfl, by decide, rfl, uw_6, wm_167⟩
theorem fp_RX6_37 : sr_FP RX6 37 6 9 := ⟨(RX6, TX6, 13), tyX6, rfl, by decide, rfl, uw_6, wm_167, tyX6_ok, nmX6, rfl, Or.inl ⟨rfl, rfl⟩⟩
theorem wm_169 : (Cond.fieldLink "SmokeRings$Play" (40 : Nat) "SmokeRings$Play" "firstPair" "I") ∈ gW := mem_t1 169 (by decide +kernel) (by decide +kernel)
theorem fl_RX6_40 : sr_FL RX6 40 6 10 := ⟨(RX6, TX6, 13), rfl, by decide, rfl, uw_6, wm_169⟩
theorem fp_RX6_40 : sr_FP RX6 40 6 10 := ⟨(RX6, TX6, 13), tyX6, rfl, by decide, rfl, uw_6, wm_169, tyX6_ok, nmX6, rfl, Or.inl ⟨rfl, rfl⟩⟩
theorem wm_171 : (Cond.fieldLink "SmokeRings$Play" (43 : Nat) "SmokeRings$Play" "lively" "I") ∈ gW := mem_t1 171 (by decide +kernel) (by decide +kernel)
theorem fl_RX6_43 : sr_FL RX6 43 6 11 := ⟨(RX6, TX6, 13), rfl, by decide, rfl, uw_6, wm_171⟩
theorem fp_RX6_43 : sr_FP RX6 43 6 11 := ⟨(RX6, TX6, 13), tyX6, rfl, by decide, rfl, uw_6, wm_171, tyX6_ok, nmX6, rfl, Or.inl ⟨rfl, rfl⟩⟩
theorem wm_172 : (Cond.fieldLink "SmokeRings$Play" (46 : Nat) "SmokeRings$Play" "laden" "J") ∈ gW := mem_t1 172 (by decide +kernel) (by decide +kernel)
theorem fl_RX6_46 : sr_FL RX6 46 6 12 := ⟨(RX6, TX6, 13), rfl, by decide, rfl, uw_6, wm_172⟩
theorem fp_RX6_46 : sr_FP RX6 46 6 12 := ⟨(RX6, TX6, 13), tyX6, rfl, by decide, rfl, uw_6, wm_172, tyX6_ok, nmX6, rfl, Or.inr (Or.inl ⟨rfl, rfl⟩)⟩
theorem wm_144 : (Cond.fieldLink "SmokeRings$Play" (50 : Nat) "SmokeRings$Play" "valley" "LSmokeRings$Valley;") ∈ gW := mem_t1 144 (by decide +kernel) (by decide +kernel)
theorem fl_RX6_50 : sr_FL RX6 50 6 0 := ⟨(RX6, TX6, 13), rfl, by decide, rfl, uw_6, wm_144⟩
theorem wm_63 : (Cond.fieldLink "SmokeRings$Play" (62 : Nat) "SmokeRings$Night" "rings" "I") ∈ gW := mem_t1 63 (by decide +kernel) (by decide +kernel)
theorem fl_RX6_62 : sr_FL RX6 62 4 0 := ⟨(RX4, TX4, 12), rfl, by decide, rfl, uw_4, wm_63⟩
theorem fp_RX6_62 : sr_FP RX6 62 4 0 := ⟨(RX4, TX4, 12), tyX4, rfl, by decide, rfl, uw_4, wm_63, tyX4_ok, nmX4, rfl, Or.inl ⟨rfl, rfl⟩⟩
theorem wm_84 : (Cond.fieldLink "SmokeRings$Play" (67 : Nat) "SmokeRings$Night" "breath" "[I") ∈ gW := mem_t1 84 (by decide +kernel) (by decide +kernel)
theorem fl_RX6_67 : sr_FL RX6 67 4 4 := ⟨(RX4, TX4, 12), rfl, by decide, rfl, uw_4, wm_84⟩
theorem wm_71 : (Cond.fieldLink "SmokeRings$Play" (70 : Nat) "SmokeRings$Night" "blown" "[I") ∈ gW := mem_t1 71 (by decide +kernel) (by decide +kernel)
theorem fl_RX6_70 : sr_FL RX6 70 4 1 := ⟨(RX4, TX4, 12), rfl, by decide, rfl, uw_4, wm_71⟩
theorem wm_91 : (Cond.fieldLink "SmokeRings$Play" (73 : Nat) "SmokeRings$Night" "things" "I") ∈ gW := mem_t1 91 (by decide +kernel) (by decide +kernel)
theorem fl_RX6_73 : sr_FL RX6 73 4 6 := ⟨(RX4, TX4, 12), rfl, by decide, rfl, uw_4, wm_91⟩
theorem fp_RX6_73 : sr_FP RX6 73 4 6 := ⟨(RX4, TX4, 12), tyX4, rfl, by decide, rfl, uw_4, wm_91, tyX4_ok, nmX4, rfl, Or.inl ⟨rfl, rfl⟩⟩
theorem wm_97 : (Cond.fieldLink "SmokeRings$Play" (76 : Nat) "SmokeRings$Night" "stands" "[I") ∈ gW := mem_t1 97 (by decide +kernel) (by decide +kernel)
theorem fl_RX6_76 : sr_FL RX6 76 4 7 := ⟨(RX4, TX4, 12), rfl, by decide, rfl, uw_4, wm_97⟩
theorem wm_80 : (Cond.fieldLink "SmokeRings$Play" (92 : Nat) "SmokeRings$Night" "way" "[I") ∈ gW := mem_t1 80 (by decide +kernel) (by decide +kernel)
theorem fl_RX6_92 : sr_FL RX6 92 4 3 := ⟨(RX4, TX4, 12), rfl, by decide, rfl, uw_4, wm_80⟩
theorem wm_106 : (Cond.fieldLink "SmokeRings$Play" (99 : Nat) "SmokeRings$Night" "wind" "[I") ∈ gW := mem_t1 106 (by decide +kernel) (by decide +kernel)
theorem fl_RX6_99 : sr_FL RX6 99 4 10 := ⟨(RX4, TX4, 12), rfl, by decide, rfl, uw_4, wm_106⟩
theorem wm_110 : (Cond.fieldLink "SmokeRings$Play" (106 : Nat) "SmokeRings$Night" "widens" "I") ∈ gW := mem_t1 110 (by decide +kernel) (by decide +kernel)
theorem fl_RX6_106 : sr_FL RX6 106 4 11 := ⟨(RX4, TX4, 12), rfl, by decide, rfl, uw_4, wm_110⟩
theorem fp_RX6_106 : sr_FP RX6 106 4 11 := ⟨(RX4, TX4, 12), tyX4, rfl, by decide, rfl, uw_4, wm_110, tyX4_ok, nmX4, rfl, Or.inl ⟨rfl, rfl⟩⟩
theorem wm_43 : (Cond.fieldLink "SmokeRings$Play" (109 : Nat) "SmokeRings$Valley" "next" "[I") ∈ gW := mem_t1 43 (by decide +kernel) (by decide +kernel)
theorem fl_RX6_109 : sr_FL RX6 109 10 2 := ⟨(RX10, TX10, 3), rfl, by decide, rfl, uw_10, wm_43⟩
theorem wm_76 : (Cond.fieldLink "SmokeRings$Play" (114 : Nat) "SmokeRings$Night" "from" "[I") ∈ gW := mem_t1 76 (by decide +kernel) (by decide +kernel)
theorem fl_RX6_114 : sr_FL RX6 114 4 2 := ⟨(RX4, TX4, 12), rfl, by decide, rfl, uw_4, wm_76⟩
theorem wm_39 : (Cond.fieldLink "SmokeRings$Play" (117 : Nat) "SmokeRings$Valley" "cells" "I") ∈ gW := mem_t1 39 (by decide +kernel) (by decide +kernel)
theorem fl_RX6_117 : sr_FL RX6 117 10 0 := ⟨(RX10, TX10, 3), rfl, by decide, rfl, uw_10, wm_39⟩
theorem fp_RX6_117 : sr_FP RX6 117 10 0 := ⟨(RX10, TX10, 3), tyX10, rfl, by decide, rfl, uw_10, wm_39, tyX10_ok, nmX10, rfl, Or.inl ⟨rfl, rfl⟩⟩
theorem wm_87 : (Cond.fieldLink "SmokeRings$Play" (127 : Nat) "SmokeRings$Night" "whom" "[I") ∈ gW := mem_t1 87 (by decide +kernel) (by decide +kernel)
theorem fl_RX6_127 : sr_FL RX6 127 4 5 := ⟨(RX4, TX4, 12), rfl, by decide, rfl, uw_4, wm_87⟩
theorem wm_255 : (Cond.fieldLink "SmokeRings$Sheet" (9 : Nat) "SmokeRings$Sheet" "form" "I") ∈ gW := mem_t2 15 (by decide +kernel) (by decide +kernel)
theorem fl_RX7_9 : sr_FL RX7 9 7 0 := ⟨(RX7, TX7, 3), rfl, by decide, rfl, uw_7, wm_255⟩
theorem fp_RX7_9 : sr_FP RX7 9 7 0 := ⟨(RX7, TX7, 3), tyX7, rfl, by decide, rfl, uw_7, wm_255, tyX7_ok, nmX7, rfl, Or.inl ⟨rfl, rfl⟩⟩
theorem wm_257 : (Cond.fieldLink "SmokeRings$Sheet" (15 : Nat) "SmokeRings$Sheet" "length" "I") ∈ gW := mem_t2 17 (by decide +kernel) (by decide +kernel)
theorem fl_RX7_15 : sr_FL RX7 15 7 1 := ⟨(RX7, TX7, 3), rfl, by decide, rfl, uw_7, wm_257⟩
theorem fp_RX7_15 : sr_FP RX7 15 7 1 := ⟨(RX7, TX7, 3), tyX7, rfl, by decide, rfl, uw_7, wm_257, tyX7_ok, nmX7, rfl, Or.inl ⟨rfl, rfl⟩⟩
theorem wm_259 : (Cond.fieldLink "SmokeRings$Sheet" (18 : Nat) "SmokeRings$Sheet" "items" "[I") ∈ gW := mem_t2 19 (by decide +kernel) (by decide +kernel)
theorem fl_RX7_18 : sr_FL RX7 18 7 2 := ⟨(RX7, TX7, 3), rfl, by decide, rfl, uw_7, wm_259⟩
theorem wm_216 : (Cond.fieldLink "SmokeRings$Sights" (9 : Nat) "SmokeRings$Sights" "things" "[I") ∈ gW := mem_t1 216 (by decide +kernel) (by decide +kernel)
theorem fl_RX8_9 : sr_FL RX8 9 8 0 := ⟨(RX8, TX8, 3), rfl, by decide, rfl, uw_8, wm_216⟩
theorem wm_217 : (Cond.fieldLink "SmokeRings$Sights" (15 : Nat) "SmokeRings$Sights" "outcomes" "[I") ∈ gW := mem_t1 217 (by decide +kernel) (by decide +kernel)
theorem fl_RX8_15 : sr_FL RX8 15 8 1 := ⟨(RX8, TX8, 3), rfl, by decide, rfl, uw_8, wm_217⟩
theorem wm_218 : (Cond.fieldLink "SmokeRings$Sights" (18 : Nat) "SmokeRings$Sights" "length" "I") ∈ gW := mem_t1 218 (by decide +kernel) (by decide +kernel)
theorem fl_RX8_18 : sr_FL RX8 18 8 2 := ⟨(RX8, TX8, 3), rfl, by decide, rfl, uw_8, wm_218⟩
theorem fp_RX8_18 : sr_FP RX8 18 8 2 := ⟨(RX8, TX8, 3), tyX8, rfl, by decide, rfl, uw_8, wm_218, tyX8_ok, nmX8, rfl, Or.inl ⟨rfl, rfl⟩⟩
theorem wm_90 : (Cond.fieldLink "SmokeRings$Sights" (22 : Nat) "SmokeRings$Night" "things" "I") ∈ gW := mem_t1 90 (by decide +kernel) (by decide +kernel)
theorem fl_RX8_22 : sr_FL RX8 22 4 6 := ⟨(RX4, TX4, 12), rfl, by decide, rfl, uw_4, wm_90⟩
theorem fp_RX8_22 : sr_FP RX8 22 4 6 := ⟨(RX4, TX4, 12), tyX4, rfl, by decide, rfl, uw_4, wm_90, tyX4_ok, nmX4, rfl, Or.inl ⟨rfl, rfl⟩⟩
theorem wm_241 : (Cond.fieldLink "SmokeRings$Text" (9 : Nat) "SmokeRings$Text" "length" "I") ∈ gW := mem_t2 1 (by decide +kernel) (by decide +kernel)
theorem fl_RX9_9 : sr_FL RX9 9 9 1 := ⟨(RX9, TX9, 2), rfl, by decide, rfl, uw_9, wm_241⟩
theorem fp_RX9_9 : sr_FP RX9 9 9 1 := ⟨(RX9, TX9, 2), tyX9, rfl, by decide, rfl, uw_9, wm_241, tyX9_ok, nmX9, rfl, Or.inl ⟨rfl, rfl⟩⟩
theorem wm_240 : (Cond.fieldLink "SmokeRings$Text" (21 : Nat) "SmokeRings$Text" "bytes" "[I") ∈ gW := mem_t2 0 (by decide +kernel) (by decide +kernel)
theorem fl_RX9_21 : sr_FL RX9 21 9 0 := ⟨(RX9, TX9, 2), rfl, by decide, rfl, uw_9, wm_240⟩
theorem wm_35 : (Cond.fieldLink "SmokeRings$Valley" (9 : Nat) "SmokeRings$Valley" "cells" "I") ∈ gW := mem_t1 35 (by decide +kernel) (by decide +kernel)
theorem fl_RX10_9 : sr_FL RX10 9 10 0 := ⟨(RX10, TX10, 3), rfl, by decide, rfl, uw_10, wm_35⟩
theorem fp_RX10_9 : sr_FP RX10 9 10 0 := ⟨(RX10, TX10, 3), tyX10, rfl, by decide, rfl, uw_10, wm_35, tyX10_ok, nmX10, rfl, Or.inl ⟨rfl, rfl⟩⟩
theorem wm_41 : (Cond.fieldLink "SmokeRings$Valley" (15 : Nat) "SmokeRings$Valley" "open" "[Z") ∈ gW := mem_t1 41 (by decide +kernel) (by decide +kernel)
theorem fl_RX10_15 : sr_FL RX10 15 10 1 := ⟨(RX10, TX10, 3), rfl, by decide, rfl, uw_10, wm_41⟩
theorem wm_42 : (Cond.fieldLink "SmokeRings$Valley" (19 : Nat) "SmokeRings$Valley" "next" "[I") ∈ gW := mem_t1 42 (by decide +kernel) (by decide +kernel)
theorem fl_RX10_19 : sr_FL RX10 19 10 2 := ⟨(RX10, TX10, 3), rfl, by decide, rfl, uw_10, wm_42⟩
theorem wm_243 : (Cond.fieldLink "SmokeRings$Valley" (34 : Nat) "SmokeRings$Text" "length" "I") ∈ gW := mem_t2 3 (by decide +kernel) (by decide +kernel)
theorem fl_RX10_34 : sr_FL RX10 34 9 1 := ⟨(RX9, TX9, 2), rfl, by decide, rfl, uw_9, wm_243⟩
theorem fp_RX10_34 : sr_FP RX10 34 9 1 := ⟨(RX9, TX9, 2), tyX9, rfl, by decide, rfl, uw_9, wm_243, tyX9_ok, nmX9, rfl, Or.inl ⟨rfl, rfl⟩⟩
theorem wm_978 : (Cond.fieldLink "SmokeRingsModel" (7 : Nat) "SmokeRingsModel" "forms" "[I") ∈ gW := mem_t5 18 (by decide +kernel) (by decide +kernel)
theorem fl_RX12_7 : sr_FL RX12 7 12 0 := ⟨(RX12, TX12, 32), rfl, by decide, rfl, uw_12, wm_978⟩
theorem wm_979 : (Cond.fieldLink "SmokeRingsModel" (13 : Nat) "SmokeRingsModel" "sizes" "[I") ∈ gW := mem_t5 19 (by decide +kernel) (by decide +kernel)
theorem fl_RX12_13 : sr_FL RX12 13 12 1 := ⟨(RX12, TX12, 32), rfl, by decide, rfl, uw_12, wm_979⟩
theorem wm_980 : (Cond.fieldLink "SmokeRingsModel" (16 : Nat) "SmokeRingsModel" "items" "[I") ∈ gW := mem_t5 20 (by decide +kernel) (by decide +kernel)
theorem fl_RX12_16 : sr_FL RX12 16 12 2 := ⟨(RX12, TX12, 32), rfl, by decide, rfl, uw_12, wm_980⟩
theorem wm_981 : (Cond.fieldLink "SmokeRingsModel" (19 : Nat) "SmokeRingsModel" "moved" "[I") ∈ gW := mem_t5 21 (by decide +kernel) (by decide +kernel)
theorem fl_RX12_19 : sr_FL RX12 19 12 3 := ⟨(RX12, TX12, 32), rfl, by decide, rfl, uw_12, wm_981⟩
theorem wm_983 : (Cond.fieldLink "SmokeRingsModel" (22 : Nat) "SmokeRingsModel" "bytes" "[I") ∈ gW := mem_t5 23 (by decide +kernel) (by decide +kernel)
theorem fl_RX12_22 : sr_FL RX12 22 12 5 := ⟨(RX12, TX12, 32), rfl, by decide, rfl, uw_12, wm_983⟩
theorem wm_984 : (Cond.fieldLink "SmokeRingsModel" (25 : Nat) "SmokeRingsModel" "typed" "[I") ∈ gW := mem_t5 24 (by decide +kernel) (by decide +kernel)
theorem fl_RX12_25 : sr_FL RX12 25 12 6 := ⟨(RX12, TX12, 32), rfl, by decide, rfl, uw_12, wm_984⟩
theorem wm_987 : (Cond.fieldLink "SmokeRingsModel" (28 : Nat) "SmokeRingsModel" "cell" "[I") ∈ gW := mem_t5 27 (by decide +kernel) (by decide +kernel)
theorem fl_RX12_28 : sr_FL RX12 28 12 9 := ⟨(RX12, TX12, 32), rfl, by decide, rfl, uw_12, wm_987⟩
theorem wm_989 : (Cond.fieldLink "SmokeRingsModel" (31 : Nat) "SmokeRingsModel" "thing" "[I") ∈ gW := mem_t5 29 (by decide +kernel) (by decide +kernel)
theorem fl_RX12_31 : sr_FL RX12 31 12 11 := ⟨(RX12, TX12, 32), rfl, by decide, rfl, uw_12, wm_989⟩
theorem wm_990 : (Cond.fieldLink "SmokeRingsModel" (34 : Nat) "SmokeRingsModel" "wind" "[I") ∈ gW := mem_t5 30 (by decide +kernel) (by decide +kernel)
theorem fl_RX12_34 : sr_FL RX12 34 12 12 := ⟨(RX12, TX12, 32), rfl, by decide, rfl, uw_12, wm_990⟩
theorem wm_993 : (Cond.fieldLink "SmokeRingsModel" (37 : Nat) "SmokeRingsModel" "ring" "[I") ∈ gW := mem_t5 33 (by decide +kernel) (by decide +kernel)
theorem fl_RX12_37 : sr_FL RX12 37 12 15 := ⟨(RX12, TX12, 32), rfl, by decide, rfl, uw_12, wm_993⟩
theorem wm_994 : (Cond.fieldLink "SmokeRingsModel" (40 : Nat) "SmokeRingsModel" "state" "[I") ∈ gW := mem_t5 34 (by decide +kernel) (by decide +kernel)
theorem fl_RX12_40 : sr_FL RX12 40 12 16 := ⟨(RX12, TX12, 32), rfl, by decide, rfl, uw_12, wm_994⟩
theorem wm_995 : (Cond.fieldLink "SmokeRingsModel" (43 : Nat) "SmokeRingsModel" "at" "[I") ∈ gW := mem_t5 35 (by decide +kernel) (by decide +kernel)
theorem fl_RX12_43 : sr_FL RX12 43 12 17 := ⟨(RX12, TX12, 32), rfl, by decide, rfl, uw_12, wm_995⟩
theorem wm_996 : (Cond.fieldLink "SmokeRingsModel" (46 : Nat) "SmokeRingsModel" "width" "[I") ∈ gW := mem_t5 36 (by decide +kernel) (by decide +kernel)
theorem fl_RX12_46 : sr_FL RX12 46 12 18 := ⟨(RX12, TX12, 32), rfl, by decide, rfl, uw_12, wm_996⟩
theorem wm_997 : (Cond.fieldLink "SmokeRingsModel" (49 : Nat) "SmokeRingsModel" "breath" "[I") ∈ gW := mem_t5 37 (by decide +kernel) (by decide +kernel)
theorem fl_RX12_49 : sr_FL RX12 49 12 19 := ⟨(RX12, TX12, 32), rfl, by decide, rfl, uw_12, wm_997⟩
theorem wm_998 : (Cond.fieldLink "SmokeRingsModel" (52 : Nat) "SmokeRingsModel" "kept" "[I") ∈ gW := mem_t5 38 (by decide +kernel) (by decide +kernel)
theorem fl_RX12_52 : sr_FL RX12 52 12 20 := ⟨(RX12, TX12, 32), rfl, by decide, rfl, uw_12, wm_998⟩
theorem wm_999 : (Cond.fieldLink "SmokeRingsModel" (55 : Nat) "SmokeRingsModel" "boundBy" "[I") ∈ gW := mem_t5 39 (by decide +kernel) (by decide +kernel)
theorem fl_RX12_55 : sr_FL RX12 55 12 21 := ⟨(RX12, TX12, 32), rfl, by decide, rfl, uw_12, wm_999⟩
theorem wm_1000 : (Cond.fieldLink "SmokeRingsModel" (58 : Nat) "SmokeRingsModel" "boundOn" "[I") ∈ gW := mem_t5 40 (by decide +kernel) (by decide +kernel)
theorem fl_RX12_58 : sr_FL RX12 58 12 22 := ⟨(RX12, TX12, 32), rfl, by decide, rfl, uw_12, wm_1000⟩
theorem wm_1006 : (Cond.fieldLink "SmokeRingsModel" (61 : Nat) "SmokeRingsModel" "sight" "[I") ∈ gW := mem_t5 46 (by decide +kernel) (by decide +kernel)
theorem fl_RX12_61 : sr_FL RX12 61 12 28 := ⟨(RX12, TX12, 32), rfl, by decide, rfl, uw_12, wm_1006⟩
theorem wm_1007 : (Cond.fieldLink "SmokeRingsModel" (64 : Nat) "SmokeRingsModel" "alike" "[I") ∈ gW := mem_t5 47 (by decide +kernel) (by decide +kernel)
theorem fl_RX12_64 : sr_FL RX12 64 12 29 := ⟨(RX12, TX12, 32), rfl, by decide, rfl, uw_12, wm_1007⟩
theorem wm_1009 : (Cond.fieldLink "SmokeRingsModel" (67 : Nat) "SmokeRingsModel" "told" "[I") ∈ gW := mem_t5 49 (by decide +kernel) (by decide +kernel)
theorem fl_RX12_67 : sr_FL RX12 67 12 31 := ⟨(RX12, TX12, 32), rfl, by decide, rfl, uw_12, wm_1009⟩
theorem wm_991 : (Cond.fieldLink "SmokeRingsModel" (70 : Nat) "SmokeRingsModel" "widens" "I") ∈ gW := mem_t5 31 (by decide +kernel) (by decide +kernel)
theorem fl_RX12_70 : sr_FL RX12 70 12 13 := ⟨(RX12, TX12, 32), rfl, by decide, rfl, uw_12, wm_991⟩
theorem fp_RX12_70 : sr_FP RX12 70 12 13 := ⟨(RX12, TX12, 32), tyX12, rfl, by decide, rfl, uw_12, wm_991, tyX12_ok, nmX12, rfl, Or.inl ⟨rfl, rfl⟩⟩
theorem wm_982 : (Cond.fieldLink "SmokeRingsModel" (80 : Nat) "SmokeRingsModel" "latest" "I") ∈ gW := mem_t5 22 (by decide +kernel) (by decide +kernel)
theorem fl_RX12_80 : sr_FL RX12 80 12 4 := ⟨(RX12, TX12, 32), rfl, by decide, rfl, uw_12, wm_982⟩
theorem fp_RX12_80 : sr_FP RX12 80 12 4 := ⟨(RX12, TX12, 32), tyX12, rfl, by decide, rfl, uw_12, wm_982, tyX12_ok, nmX12, rfl, Or.inl ⟨rfl, rfl⟩⟩
theorem wm_985 : (Cond.fieldLink "SmokeRingsModel" (109 : Nat) "SmokeRingsModel" "cells" "I") ∈ gW := mem_t5 25 (by decide +kernel) (by decide +kernel)
theorem fl_RX12_109 : sr_FL RX12 109 12 7 := ⟨(RX12, TX12, 32), rfl, by decide, rfl, uw_12, wm_985⟩
theorem fp_RX12_109 : sr_FP RX12 109 12 7 := ⟨(RX12, TX12, 32), tyX12, rfl, by decide, rfl, uw_12, wm_985, tyX12_ok, nmX12, rfl, Or.inl ⟨rfl, rfl⟩⟩
theorem wm_986 : (Cond.fieldLink "SmokeRingsModel" (112 : Nat) "SmokeRingsModel" "wide" "I") ∈ gW := mem_t5 26 (by decide +kernel) (by decide +kernel)
theorem fl_RX12_112 : sr_FL RX12 112 12 8 := ⟨(RX12, TX12, 32), rfl, by decide, rfl, uw_12, wm_986⟩
theorem fp_RX12_112 : sr_FP RX12 112 12 8 := ⟨(RX12, TX12, 32), tyX12, rfl, by decide, rfl, uw_12, wm_986, tyX12_ok, nmX12, rfl, Or.inl ⟨rfl, rfl⟩⟩
theorem wm_988 : (Cond.fieldLink "SmokeRingsModel" (126 : Nat) "SmokeRingsModel" "things" "I") ∈ gW := mem_t5 28 (by decide +kernel) (by decide +kernel)
theorem fl_RX12_126 : sr_FL RX12 126 12 10 := ⟨(RX12, TX12, 32), rfl, by decide, rfl, uw_12, wm_988⟩
theorem fp_RX12_126 : sr_FP RX12 126 12 10 := ⟨(RX12, TX12, 32), tyX12, rfl, by decide, rfl, uw_12, wm_988, tyX12_ok, nmX12, rfl, Or.inl ⟨rfl, rfl⟩⟩
theorem wm_992 : (Cond.fieldLink "SmokeRingsModel" (160 : Nat) "SmokeRingsModel" "rings" "I") ∈ gW := mem_t5 32 (by decide +kernel) (by decide +kernel)
theorem fl_RX12_160 : sr_FL RX12 160 12 14 := ⟨(RX12, TX12, 32), rfl, by decide, rfl, uw_12, wm_992⟩
theorem fp_RX12_160 : sr_FP RX12 160 12 14 := ⟨(RX12, TX12, 32), tyX12, rfl, by decide, rfl, uw_12, wm_992, tyX12_ok, nmX12, rfl, Or.inl ⟨rfl, rfl⟩⟩
theorem wm_1004 : (Cond.fieldLink "SmokeRingsModel" (183 : Nat) "SmokeRingsModel" "calms" "I") ∈ gW := mem_t5 44 (by decide +kernel) (by decide +kernel)
theorem fl_RX12_183 : sr_FL RX12 183 12 26 := ⟨(RX12, TX12, 32), rfl, by decide, rfl, uw_12, wm_1004⟩
theorem fp_RX12_183 : sr_FP RX12 183 12 26 := ⟨(RX12, TX12, 32), tyX12, rfl, by decide, rfl, uw_12, wm_1004, tyX12_ok, nmX12, rfl, Or.inl ⟨rfl, rfl⟩⟩
theorem wm_1001 : (Cond.fieldLink "SmokeRingsModel" (193 : Nat) "SmokeRingsModel" "throughs" "I") ∈ gW := mem_t5 41 (by decide +kernel) (by decide +kernel)
theorem fl_RX12_193 : sr_FL RX12 193 12 23 := ⟨(RX12, TX12, 32), rfl, by decide, rfl, uw_12, wm_1001⟩
theorem fp_RX12_193 : sr_FP RX12 193 12 23 := ⟨(RX12, TX12, 32), tyX12, rfl, by decide, rfl, uw_12, wm_1001, tyX12_ok, nmX12, rfl, Or.inl ⟨rfl, rfl⟩⟩
theorem wm_1002 : (Cond.fieldLink "SmokeRingsModel" (196 : Nat) "SmokeRingsModel" "firstThrough" "I") ∈ gW := mem_t5 42 (by decide +kernel) (by decide +kernel)
theorem fl_RX12_196 : sr_FL RX12 196 12 24 := ⟨(RX12, TX12, 32), rfl, by decide, rfl, uw_12, wm_1002⟩
theorem fp_RX12_196 : sr_FP RX12 196 12 24 := ⟨(RX12, TX12, 32), tyX12, rfl, by decide, rfl, uw_12, wm_1002, tyX12_ok, nmX12, rfl, Or.inl ⟨rfl, rfl⟩⟩
theorem wm_1003 : (Cond.fieldLink "SmokeRingsModel" (205 : Nat) "SmokeRingsModel" "gone" "I") ∈ gW := mem_t5 43 (by decide +kernel) (by decide +kernel)
theorem fl_RX12_205 : sr_FL RX12 205 12 25 := ⟨(RX12, TX12, 32), rfl, by decide, rfl, uw_12, wm_1003⟩
theorem fp_RX12_205 : sr_FP RX12 205 12 25 := ⟨(RX12, TX12, 32), tyX12, rfl, by decide, rfl, uw_12, wm_1003, tyX12_ok, nmX12, rfl, Or.inl ⟨rfl, rfl⟩⟩
theorem wm_1005 : (Cond.fieldLink "SmokeRingsModel" (296 : Nat) "SmokeRingsModel" "sights" "I") ∈ gW := mem_t5 45 (by decide +kernel) (by decide +kernel)
theorem fl_RX12_296 : sr_FL RX12 296 12 27 := ⟨(RX12, TX12, 32), rfl, by decide, rfl, uw_12, wm_1005⟩
theorem fp_RX12_296 : sr_FP RX12 296 12 27 := ⟨(RX12, TX12, 32), tyX12, rfl, by decide, rfl, uw_12, wm_1005, tyX12_ok, nmX12, rfl, Or.inl ⟨rfl, rfl⟩⟩
theorem wm_1008 : (Cond.fieldLink "SmokeRingsModel" (330 : Nat) "SmokeRingsModel" "drawn" "I") ∈ gW := mem_t5 48 (by decide +kernel) (by decide +kernel)
theorem fl_RX12_330 : sr_FL RX12 330 12 30 := ⟨(RX12, TX12, 32), rfl, by decide, rfl, uw_12, wm_1008⟩
theorem fp_RX12_330 : sr_FP RX12 330 12 30 := ⟨(RX12, TX12, 32), tyX12, rfl, by decide, rfl, uw_12, wm_1008, tyX12_ok, nmX12, rfl, Or.inl ⟨rfl, rfl⟩⟩
theorem fn_RX11_318 : sr_FN RX11 318 7 0 := ⟨(RX7, TX7, 3), "SmokeRings", rfl, by decide, rfl, uw_7, rfl⟩
theorem wm_439 : (Cond.methodLink "SmokeRings" (102 : Nat) ({ cls := "SmokeRings", name := "within", desc := "(III)Z" } : MethodName)) ∈ gW := mem_t2 199 (by decide +kernel) (by decide +kernel)
theorem wm_441 : (Cond.code ({ cls := "SmokeRings", name := "within", desc := "(III)Z" } : MethodName) prog_1_method_48_code (3 : Nat) (Option.some FieldType.boolean)) ∈ gW := mem_t2 201 (by decide +kernel) (by decide +kernel)
theorem wm_1 : (Cond.initialized "SmokeRings") ∈ gW := mem_t1 1 (by decide +kernel) (by decide +kernel)
theorem wm_440 : (Cond.static ({ cls := "SmokeRings", name := "within", desc := "(III)Z" } : MethodName)) ∈ gW := mem_t2 200 (by decide +kernel) (by decide +kernel)
theorem ms_RX11_102 : sr_MS RX11 102 yX11_within cX11_within 3 (some .boolean) 3 := ⟨wm_439, wm_440, wm_1, wm_441, ⟨by decide +kernel, by decide +kernel⟩, by decide +kernel, by decide⟩
theorem wm_442 : (Cond.methodLink "SmokeRings" (106 : Nat) ({ cls := "SmokeRings$Text", name := "append", desc := "(I)Z" } : MethodName)) ∈ gW := mem_t2 202 (by decide +kernel) (by decide +kernel)
theorem wm_445 : (Cond.code ({ cls := "SmokeRings$Text", name := "append", desc := "(I)Z" } : MethodName) prog_11_method_2_code (2 : Nat) (Option.some FieldType.boolean)) ∈ gW := mem_t2 205 (by decide +kernel) (by decide +kernel)
theorem wm_8 : (Cond.initialized "SmokeRings$Text") ∈ gW := mem_t1 8 (by decide +kernel) (by decide +kernel)
theorem wm_443 : (Cond.instanceMethod ({ cls := "SmokeRings$Text", name := "append", desc := "(I)Z" } : MethodName)) ∈ gW := mem_t2 203 (by decide +kernel) (by decide +kernel)
theorem wm_444 : (Cond.selects "SmokeRings$Text" ({ cls := "SmokeRings$Text", name := "append", desc := "(I)Z" } : MethodName) ({ cls := "SmokeRings$Text", name := "append", desc := "(I)Z" } : MethodName)) ∈ gW := mem_t2 204 (by decide +kernel) (by decide +kernel)
theorem mv_RX11_106 : sr_MV RX11 106 yX9_append cX9_append 2 (some .boolean) 1 9 := ⟨⟨(RX9, TX9, 2), rfl, rfl⟩, wm_442, wm_443, wm_444, wm_8, wm_445, ⟨by decide +kernel, by decide +kernel⟩, by decide +kernel, by decide⟩
theorem wm_446 : (Cond.methodLink "SmokeRings" (110 : Nat) ({ cls := "SmokeRings", name := "reread", desc := "(I)V" } : MethodName)) ∈ gW := mem_t2 206 (by decide +kernel) (by decide +kernel)
theorem wm_449 : (Cond.code ({ cls := "SmokeRings", name := "reread", desc := "(I)V" } : MethodName) prog_1_method_53_code (2 : Nat) (Option.none : Option FieldType)) ∈ gW := mem_t2 209 (by decide +kernel) (by decide +kernel)
theorem wm_448 : (Cond.instanceMethod ({ cls := "SmokeRings", name := "reread", desc := "(I)V" } : MethodName)) ∈ gW := mem_t2 208 (by decide +kernel) (by decide +kernel)
theorem pv_X11_reread : Cond.selects yX11_reread.cls yX11_reread yX11_reread ∈ gW := mem_prv (n := 13) (by decide +kernel) (by decide +kernel)
theorem mv_RX11_110 : sr_MV RX11 110 yX11_reread cX11_reread 2 none 1 11 := ⟨⟨(RX11, TX11, 13), rfl, rfl⟩, wm_446, wm_448, pv_X11_reread, wm_1, wm_449, ⟨by decide +kernel, by decide +kernel⟩, by decide +kernel, by decide⟩
theorem wm_514 : (Cond.methodLink "SmokeRings" (119 : Nat) ({ cls := "SmokeRings$Valley", name := "isOpen", desc := "(I)Z" } : MethodName)) ∈ gW := mem_t3 34 (by decide +kernel) (by decide +kernel)
theorem wm_476 : (Cond.code ({ cls := "SmokeRings$Valley", name := "isOpen", desc := "(I)Z" } : MethodName) prog_12_method_2_code (2 : Nat) (Option.some FieldType.boolean)) ∈ gW := mem_t2 236 (by decide +kernel) (by decide +kernel)
theorem wm_2 : (Cond.initialized "SmokeRings$Valley") ∈ gW := mem_t1 2 (by decide +kernel) (by decide +kernel)
theorem wm_474 : (Cond.instanceMethod ({ cls := "SmokeRings$Valley", name := "isOpen", desc := "(I)Z" } : MethodName)) ∈ gW := mem_t2 234 (by decide +kernel) (by decide +kernel)
theorem wm_475 : (Cond.selects "SmokeRings$Valley" ({ cls := "SmokeRings$Valley", name := "isOpen", desc := "(I)Z" } : MethodName) ({ cls := "SmokeRings$Valley", name := "isOpen", desc := "(I)Z" } : MethodName)) ∈ gW := mem_t2 235 (by decide +kernel) (by decide +kernel)
theorem mv_RX11_119 : sr_MV RX11 119 yX10_isOpen cX10_isOpen 2 (some .boolean) 1 10 := ⟨⟨(RX10, TX10, 3), rfl, rfl⟩, wm_514, wm_474, wm_475, wm_2, wm_476, ⟨by decide +kernel, by decide +kernel⟩, by decide +kernel, by decide⟩
theorem wm_519 : (Cond.methodLink "SmokeRings" (122 : Nat) ({ cls := "SmokeRings", name := "isThing", desc := "(I)Z" } : MethodName)) ∈ gW := mem_t3 39 (by decide +kernel) (by decide +kernel)
theorem wm_522 : (Cond.code ({ cls := "SmokeRings", name := "isThing", desc := "(I)Z" } : MethodName) prog_1_method_51_code (2 : Nat) (Option.some FieldType.boolean)) ∈ gW := mem_t3 42 (by decide +kernel) (by decide +kernel)
theorem wm_521 : (Cond.instanceMethod ({ cls := "SmokeRings", name := "isThing", desc := "(I)Z" } : MethodName)) ∈ gW := mem_t3 41 (by decide +kernel) (by decide +kernel)
theorem pv_X11_isThing : Cond.selects yX11_isThing.cls yX11_isThing yX11_isThing ∈ gW := mem_prv (n := 13) (by decide +kernel) (by decide +kernel)
theorem mv_RX11_122 : sr_MV RX11 122 yX11_isThing cX11_isThing 2 (some .boolean) 1 11 := ⟨⟨(RX11, TX11, 13), rfl, rfl⟩, wm_519, wm_521, pv_X11_isThing, wm_1, wm_522, ⟨by decide +kernel, by decide +kernel⟩, by decide +kernel, by decide⟩
theorem wm_535 : (Cond.methodLink "SmokeRings" (140 : Nat) ({ cls := "SmokeRings", name := "mayBlow", desc := "(IIIII)Z" } : MethodName)) ∈ gW := mem_t3 55 (by decide +kernel) (by decide +kernel)
theorem wm_537 : (Cond.code ({ cls := "SmokeRings", name := "mayBlow", desc := "(IIIII)Z" } : MethodName) prog_1_method_49_code (5 : Nat) (Option.some FieldType.boolean)) ∈ gW := mem_t3 57 (by decide +kernel) (by decide +kernel)
theorem wm_536 : (Cond.static ({ cls := "SmokeRings", name := "mayBlow", desc := "(IIIII)Z" } : MethodName)) ∈ gW := mem_t3 56 (by decide +kernel) (by decide +kernel)
theorem ms_RX11_140 : sr_MS RX11 140 yX11_mayBlow cX11_mayBlow 5 (some .boolean) 5 := ⟨wm_535, wm_536, wm_1, wm_537, ⟨by decide +kernel, by decide +kernel⟩, by decide +kernel, by decide⟩
theorem wm_538 : (Cond.methodLink "SmokeRings" (147 : Nat) ({ cls := "SmokeRings$Night", name := "addRing", desc := "(IIIII)V" } : MethodName)) ∈ gW := mem_t3 58 (by decide +kernel) (by decide +kernel)
theorem wm_541 : (Cond.code ({ cls := "SmokeRings$Night", name := "addRing", desc := "(IIIII)V" } : MethodName) prog_6_method_3_code (6 : Nat) (Option.none : Option FieldType)) ∈ gW := mem_t3 61 (by decide +kernel) (by decide +kernel)
theorem wm_3 : (Cond.initialized "SmokeRings$Night") ∈ gW := mem_t1 3 (by decide +kernel) (by decide +kernel)
theorem wm_539 : (Cond.instanceMethod ({ cls := "SmokeRings$Night", name := "addRing", desc := "(IIIII)V" } : MethodName)) ∈ gW := mem_t3 59 (by decide +kernel) (by decide +kernel)
theorem wm_540 : (Cond.selects "SmokeRings$Night" ({ cls := "SmokeRings$Night", name := "addRing", desc := "(IIIII)V" } : MethodName) ({ cls := "SmokeRings$Night", name := "addRing", desc := "(IIIII)V" } : MethodName)) ∈ gW := mem_t3 60 (by decide +kernel) (by decide +kernel)
theorem mv_RX11_147 : sr_MV RX11 147 yX4_addRing cX4_addRing 6 none 5 4 := ⟨⟨(RX4, TX4, 12), rfl, rfl⟩, wm_538, wm_539, wm_540, wm_3, wm_541, ⟨by decide +kernel, by decide +kernel⟩, by decide +kernel, by decide⟩
theorem wm_546 : (Cond.methodLink "SmokeRings" (151 : Nat) ({ cls := "SmokeRings", name := "isRing", desc := "(I)Z" } : MethodName)) ∈ gW := mem_t3 66 (by decide +kernel) (by decide +kernel)
theorem wm_549 : (Cond.code ({ cls := "SmokeRings", name := "isRing", desc := "(I)Z" } : MethodName) prog_1_method_50_code (2 : Nat) (Option.some FieldType.boolean)) ∈ gW := mem_t3 69 (by decide +kernel) (by decide +kernel)
theorem wm_548 : (Cond.instanceMethod ({ cls := "SmokeRings", name := "isRing", desc := "(I)Z" } : MethodName)) ∈ gW := mem_t3 68 (by decide +kernel) (by decide +kernel)
theorem pv_X11_isRing : Cond.selects yX11_isRing.cls yX11_isRing yX11_isRing ∈ gW := mem_prv (n := 13) (by decide +kernel) (by decide +kernel)
theorem mv_RX11_151 : sr_MV RX11 151 yX11_isRing cX11_isRing 2 (some .boolean) 1 11 := ⟨⟨(RX11, TX11, 13), rfl, rfl⟩, wm_546, wm_548, pv_X11_isRing, wm_1, wm_549, ⟨by decide +kernel, by decide +kernel⟩, by decide +kernel, by decide⟩
theorem wm_558 : (Cond.methodLink "SmokeRings" (169 : Nat) ({ cls := "SmokeRings$Sheet", name := "isLost", desc := "()Z" } : MethodName)) ∈ gW := mem_t3 78 (by decide +kernel) (by decide +kernel)
theorem wm_561 : (Cond.code ({ cls := "SmokeRings$Sheet", name := "isLost", desc := "()Z" } : MethodName) prog_9_method_2_code (1 : Nat) (Option.some FieldType.boolean)) ∈ gW := mem_t3 81 (by decide +kernel) (by decide +kernel)
theorem wm_10 : (Cond.initialized "SmokeRings$Sheet") ∈ gW := mem_t1 10 (by decide +kernel) (by decide +kernel)
theorem wm_559 : (Cond.instanceMethod ({ cls := "SmokeRings$Sheet", name := "isLost", desc := "()Z" } : MethodName)) ∈ gW := mem_t3 79 (by decide +kernel) (by decide +kernel)
theorem wm_560 : (Cond.selects "SmokeRings$Sheet" ({ cls := "SmokeRings$Sheet", name := "isLost", desc := "()Z" } : MethodName) ({ cls := "SmokeRings$Sheet", name := "isLost", desc := "()Z" } : MethodName)) ∈ gW := mem_t3 80 (by decide +kernel) (by decide +kernel)
theorem mv_RX11_169 : sr_MV RX11 169 yX7_isLost cX7_isLost 1 (some .boolean) 0 7 := ⟨⟨(RX7, TX7, 3), rfl, rfl⟩, wm_558, wm_559, wm_560, wm_10, wm_561, ⟨by decide +kernel, by decide +kernel⟩, by decide +kernel, by decide⟩
theorem wm_562 : (Cond.methodLink "SmokeRings" (173 : Nat) ({ cls := "SmokeRings", name := "found", desc := "(I)I" } : MethodName)) ∈ gW := mem_t3 82 (by decide +kernel) (by decide +kernel)
theorem wm_565 : (Cond.code ({ cls := "SmokeRings", name := "found", desc := "(I)I" } : MethodName) prog_1_method_52_code (2 : Nat) (Option.some FieldType.int)) ∈ gW := mem_t3 85 (by decide +kernel) (by decide +kernel)
theorem wm_564 : (Cond.instanceMethod ({ cls := "SmokeRings", name := "found", desc := "(I)I" } : MethodName)) ∈ gW := mem_t3 84 (by decide +kernel) (by decide +kernel)
theorem pv_X11_found : Cond.selects yX11_found.cls yX11_found yX11_found ∈ gW := mem_prv (n := 13) (by decide +kernel) (by decide +kernel)
theorem mv_RX11_173 : sr_MV RX11 173 yX11_found cX11_found 2 (some .int) 1 11 := ⟨⟨(RX11, TX11, 13), rfl, rfl⟩, wm_562, wm_564, pv_X11_found, wm_1, wm_565, ⟨by decide +kernel, by decide +kernel⟩, by decide +kernel, by decide⟩
theorem wm_566 : (Cond.methodLink "SmokeRings" (178 : Nat) ({ cls := "SmokeRings$Sheet", name := "item", desc := "(I)I" } : MethodName)) ∈ gW := mem_t3 86 (by decide +kernel) (by decide +kernel)
theorem wm_569 : (Cond.code ({ cls := "SmokeRings$Sheet", name := "item", desc := "(I)I" } : MethodName) prog_9_method_7_code (2 : Nat) (Option.some FieldType.int)) ∈ gW := mem_t3 89 (by decide +kernel) (by decide +kernel)
theorem wm_567 : (Cond.instanceMethod ({ cls := "SmokeRings$Sheet", name := "item", desc := "(I)I" } : MethodName)) ∈ gW := mem_t3 87 (by decide +kernel) (by decide +kernel)
theorem wm_568 : (Cond.selects "SmokeRings$Sheet" ({ cls := "SmokeRings$Sheet", name := "item", desc := "(I)I" } : MethodName) ({ cls := "SmokeRings$Sheet", name := "item", desc := "(I)I" } : MethodName)) ∈ gW := mem_t3 88 (by decide +kernel) (by decide +kernel)
theorem mv_RX11_178 : sr_MV RX11 178 yX7_item cX7_item 2 (some .int) 1 7 := ⟨⟨(RX7, TX7, 3), rfl, rfl⟩, wm_566, wm_567, wm_568, wm_10, wm_569, ⟨by decide +kernel, by decide +kernel⟩, by decide +kernel, by decide⟩
theorem wm_578 : (Cond.methodLink "SmokeRings" (181 : Nat) ({ cls := "SmokeRings", name := "playTold", desc := "()V" } : MethodName)) ∈ gW := mem_t3 98 (by decide +kernel) (by decide +kernel)
theorem wm_581 : (Cond.code ({ cls := "SmokeRings", name := "playTold", desc := "()V" } : MethodName) prog_1_method_54_code (2 : Nat) (Option.none : Option FieldType)) ∈ gW := mem_t3 101 (by decide +kernel) (by decide +kernel)
theorem wm_580 : (Cond.instanceMethod ({ cls := "SmokeRings", name := "playTold", desc := "()V" } : MethodName)) ∈ gW := mem_t3 100 (by decide +kernel) (by decide +kernel)
theorem pv_X11_playTold : Cond.selects yX11_playTold.cls yX11_playTold yX11_playTold ∈ gW := mem_prv (n := 13) (by decide +kernel) (by decide +kernel)
theorem mv_RX11_181 : sr_MV RX11 181 yX11_playTold cX11_playTold 2 none 0 11 := ⟨⟨(RX11, TX11, 13), rfl, rfl⟩, wm_578, wm_580, pv_X11_playTold, wm_1, wm_581, ⟨by decide +kernel, by decide +kernel⟩, by decide +kernel, by decide⟩
theorem wm_623 : (Cond.methodLink "SmokeRings" (184 : Nat) ({ cls := "SmokeRings$Diary", name := "look", desc := "(III)I" } : MethodName)) ∈ gW := mem_t3 143 (by decide +kernel) (by decide +kernel)
theorem wm_626 : (Cond.code ({ cls := "SmokeRings$Diary", name := "look", desc := "(III)I" } : MethodName) prog_3_method_3_code (5 : Nat) (Option.some FieldType.int)) ∈ gW := mem_t3 146 (by decide +kernel) (by decide +kernel)
theorem wm_6 : (Cond.initialized "SmokeRings$Diary") ∈ gW := mem_t1 6 (by decide +kernel) (by decide +kernel)
theorem wm_624 : (Cond.instanceMethod ({ cls := "SmokeRings$Diary", name := "look", desc := "(III)I" } : MethodName)) ∈ gW := mem_t3 144 (by decide +kernel) (by decide +kernel)
theorem wm_625 : (Cond.selects "SmokeRings$Diary" ({ cls := "SmokeRings$Diary", name := "look", desc := "(III)I" } : MethodName) ({ cls := "SmokeRings$Diary", name := "look", desc := "(III)I" } : MethodName)) ∈ gW := mem_t3 145 (by decide +kernel) (by decide +kernel)
theorem mv_RX11_184 : sr_MV RX11 184 yX1_look cX1_look 5 (some .int) 3 1 := ⟨⟨(RX1, TX1, 1), rfl, rfl⟩, wm_623, wm_624, wm_625, wm_6, wm_626, ⟨by decide +kernel, by decide +kernel⟩, by decide +kernel, by decide⟩
theorem wm_635 : (Cond.methodLink "SmokeRings" (197 : Nat) ({ cls := "SmokeRings$Play", name := "wedBits", desc := "(LSmokeRings$Night;I)I" } : MethodName)) ∈ gW := mem_t3 155 (by decide +kernel) (by decide +kernel)
theorem wm_638 : (Cond.code ({ cls := "SmokeRings$Play", name := "wedBits", desc := "(LSmokeRings$Night;I)I" } : MethodName) prog_8_method_11_code (5 : Nat) (Option.some FieldType.int)) ∈ gW := mem_t3 158 (by decide +kernel) (by decide +kernel)
theorem wm_5 : (Cond.initialized "SmokeRings$Play") ∈ gW := mem_t1 5 (by decide +kernel) (by decide +kernel)
theorem wm_636 : (Cond.instanceMethod ({ cls := "SmokeRings$Play", name := "wedBits", desc := "(LSmokeRings$Night;I)I" } : MethodName)) ∈ gW := mem_t3 156 (by decide +kernel) (by decide +kernel)
theorem wm_637 : (Cond.selects "SmokeRings$Play" ({ cls := "SmokeRings$Play", name := "wedBits", desc := "(LSmokeRings$Night;I)I" } : MethodName) ({ cls := "SmokeRings$Play", name := "wedBits", desc := "(LSmokeRings$Night;I)I" } : MethodName)) ∈ gW := mem_t3 157 (by decide +kernel) (by decide +kernel)
theorem mv_RX11_197 : sr_MV RX11 197 yX6_wedBits cX6_wedBits 5 (some .int) 2 6 := ⟨⟨(RX6, TX6, 13), rfl, rfl⟩, wm_635, wm_636, wm_637, wm_5, wm_638, ⟨by decide +kernel, by decide +kernel⟩, by decide +kernel, by decide⟩
theorem wm_639 : (Cond.methodLink "SmokeRings" (201 : Nat) ({ cls := "SmokeRings$Play", name := "upkeepOf", desc := "(LSmokeRings$Night;I)I" } : MethodName)) ∈ gW := mem_t3 159 (by decide +kernel) (by decide +kernel)
theorem wm_642 : (Cond.code ({ cls := "SmokeRings$Play", name := "upkeepOf", desc := "(LSmokeRings$Night;I)I" } : MethodName) prog_8_method_12_code (5 : Nat) (Option.some FieldType.int)) ∈ gW := mem_t3 162 (by decide +kernel) (by decide +kernel)
theorem wm_640 : (Cond.instanceMethod ({ cls := "SmokeRings$Play", name := "upkeepOf", desc := "(LSmokeRings$Night;I)I" } : MethodName)) ∈ gW := mem_t3 160 (by decide +kernel) (by decide +kernel)
theorem wm_641 : (Cond.selects "SmokeRings$Play" ({ cls := "SmokeRings$Play", name := "upkeepOf", desc := "(LSmokeRings$Night;I)I" } : MethodName) ({ cls := "SmokeRings$Play", name := "upkeepOf", desc := "(LSmokeRings$Night;I)I" } : MethodName)) ∈ gW := mem_t3 161 (by decide +kernel) (by decide +kernel)
theorem mv_RX11_201 : sr_MV RX11 201 yX6_upkeepOf cX6_upkeepOf 5 (some .int) 2 6 := ⟨⟨(RX6, TX6, 13), rfl, rfl⟩, wm_639, wm_640, wm_641, wm_5, wm_642, ⟨by decide +kernel, by decide +kernel⟩, by decide +kernel, by decide⟩
theorem wm_659 : (Cond.methodLink "SmokeRings" (213 : Nat) ({ cls := "java/lang/Integer", name := "bitCount", desc := "(I)I" } : MethodName)) ∈ gW := mem_t3 179 (by decide +kernel) (by decide +kernel)
theorem wm_661 : (Cond.code ({ cls := "java/lang/Integer", name := "bitCount", desc := "(I)I" } : MethodName) prog_15_method_49_code (1 : Nat) (Option.some FieldType.int)) ∈ gW := mem_t3 181 (by decide +kernel) (by decide +kernel)
theorem wm_16 : (Cond.initialized "java/lang/Integer") ∈ gW := mem_t1 16 (by decide +kernel) (by decide +kernel)
theorem wm_660 : (Cond.static ({ cls := "java/lang/Integer", name := "bitCount", desc := "(I)I" } : MethodName)) ∈ gW := mem_t3 180 (by decide +kernel) (by decide +kernel)
theorem ms_RX11_213 : sr_MS RX11 213 yJ6_bitCount_0f7a4 cJ6_bitCount_0f7a4 1 (some .int) 1 := ⟨wm_659, wm_660, wm_16, wm_661, ⟨by decide +kernel, by decide +kernel⟩, by decide +kernel, by decide⟩
theorem wm_673 : (Cond.methodLink "SmokeRings" (221 : Nat) ({ cls := "SmokeRings$Plans", name := "leastBreath", desc := "(II)I" } : MethodName)) ∈ gW := mem_t3 193 (by decide +kernel) (by decide +kernel)
theorem wm_676 : (Cond.code ({ cls := "SmokeRings$Plans", name := "leastBreath", desc := "(II)I" } : MethodName) prog_7_method_2_code (4 : Nat) (Option.some FieldType.int)) ∈ gW := mem_t3 196 (by decide +kernel) (by decide +kernel)
theorem wm_11 : (Cond.initialized "SmokeRings$Plans") ∈ gW := mem_t1 11 (by decide +kernel) (by decide +kernel)
theorem wm_674 : (Cond.instanceMethod ({ cls := "SmokeRings$Plans", name := "leastBreath", desc := "(II)I" } : MethodName)) ∈ gW := mem_t3 194 (by decide +kernel) (by decide +kernel)
theorem wm_675 : (Cond.selects "SmokeRings$Plans" ({ cls := "SmokeRings$Plans", name := "leastBreath", desc := "(II)I" } : MethodName) ({ cls := "SmokeRings$Plans", name := "leastBreath", desc := "(II)I" } : MethodName)) ∈ gW := mem_t3 195 (by decide +kernel) (by decide +kernel)
theorem mv_RX11_221 : sr_MV RX11 221 yX5_leastBreath cX5_leastBreath 4 (some .int) 2 5 := ⟨⟨(RX5, TX5, 10), rfl, rfl⟩, wm_673, wm_674, wm_675, wm_11, wm_676, ⟨by decide +kernel, by decide +kernel⟩, by decide +kernel, by decide⟩
theorem wm_694 : (Cond.methodLink "SmokeRings" (225 : Nat) ({ cls := "SmokeRings$Plans", name := "seekAim", desc := "(I)V" } : MethodName)) ∈ gW := mem_t3 214 (by decide +kernel) (by decide +kernel)
theorem wm_697 : (Cond.code ({ cls := "SmokeRings$Plans", name := "seekAim", desc := "(I)V" } : MethodName) prog_7_method_3_code (5 : Nat) (Option.none : Option FieldType)) ∈ gW := mem_t3 217 (by decide +kernel) (by decide +kernel)
theorem wm_695 : (Cond.instanceMethod ({ cls := "SmokeRings$Plans", name := "seekAim", desc := "(I)V" } : MethodName)) ∈ gW := mem_t3 215 (by decide +kernel) (by decide +kernel)
theorem wm_696 : (Cond.selects "SmokeRings$Plans" ({ cls := "SmokeRings$Plans", name := "seekAim", desc := "(I)V" } : MethodName) ({ cls := "SmokeRings$Plans", name := "seekAim", desc := "(I)V" } : MethodName)) ∈ gW := mem_t3 216 (by decide +kernel) (by decide +kernel)
theorem mv_RX11_225 : sr_MV RX11 225 yX5_seekAim cX5_seekAim 5 none 1 5 := ⟨⟨(RX5, TX5, 10), rfl, rfl⟩, wm_694, wm_695, wm_696, wm_11, wm_697, ⟨by decide +kernel, by decide +kernel⟩, by decide +kernel, by decide⟩
theorem wm_702 : (Cond.methodLink "SmokeRings" (237 : Nat) ({ cls := "SmokeRings$Plans", name := "safeCell", desc := "(I)I" } : MethodName)) ∈ gW := mem_t3 222 (by decide +kernel) (by decide +kernel)
theorem wm_705 : (Cond.code ({ cls := "SmokeRings$Plans", name := "safeCell", desc := "(I)I" } : MethodName) prog_7_method_4_code (3 : Nat) (Option.some FieldType.int)) ∈ gW := mem_t3 225 (by decide +kernel) (by decide +kernel)
theorem wm_703 : (Cond.instanceMethod ({ cls := "SmokeRings$Plans", name := "safeCell", desc := "(I)I" } : MethodName)) ∈ gW := mem_t3 223 (by decide +kernel) (by decide +kernel)
theorem wm_704 : (Cond.selects "SmokeRings$Plans" ({ cls := "SmokeRings$Plans", name := "safeCell", desc := "(I)I" } : MethodName) ({ cls := "SmokeRings$Plans", name := "safeCell", desc := "(I)I" } : MethodName)) ∈ gW := mem_t3 224 (by decide +kernel) (by decide +kernel)
theorem mv_RX11_237 : sr_MV RX11 237 yX5_safeCell cX5_safeCell 3 (some .int) 1 5 := ⟨⟨(RX5, TX5, 10), rfl, rfl⟩, wm_702, wm_703, wm_704, wm_11, wm_705, ⟨by decide +kernel, by decide +kernel⟩, by decide +kernel, by decide⟩
theorem wm_715 : (Cond.methodLink "SmokeRings" (240 : Nat) ({ cls := "SmokeRings$Plans", name := "seekHush", desc := "(I)V" } : MethodName)) ∈ gW := mem_t3 235 (by decide +kernel) (by decide +kernel)
theorem wm_718 : (Cond.code ({ cls := "SmokeRings$Plans", name := "seekHush", desc := "(I)V" } : MethodName) prog_7_method_6_code (4 : Nat) (Option.none : Option FieldType)) ∈ gW := mem_t3 238 (by decide +kernel) (by decide +kernel)
theorem wm_716 : (Cond.instanceMethod ({ cls := "SmokeRings$Plans", name := "seekHush", desc := "(I)V" } : MethodName)) ∈ gW := mem_t3 236 (by decide +kernel) (by decide +kernel)
theorem wm_717 : (Cond.selects "SmokeRings$Plans" ({ cls := "SmokeRings$Plans", name := "seekHush", desc := "(I)V" } : MethodName) ({ cls := "SmokeRings$Plans", name := "seekHush", desc := "(I)V" } : MethodName)) ∈ gW := mem_t3 237 (by decide +kernel) (by decide +kernel)
theorem mv_RX11_240 : sr_MV RX11 240 yX5_seekHush cX5_seekHush 4 none 1 5 := ⟨⟨(RX5, TX5, 10), rfl, rfl⟩, wm_715, wm_716, wm_717, wm_11, wm_718, ⟨by decide +kernel, by decide +kernel⟩, by decide +kernel, by decide⟩
theorem wm_723 : (Cond.methodLink "SmokeRings" (247 : Nat) ({ cls := "SmokeRings$Few", name := "pick", desc := "(I)I" } : MethodName)) ∈ gW := mem_t4 3 (by decide +kernel) (by decide +kernel)
theorem wm_726 : (Cond.code ({ cls := "SmokeRings$Few", name := "pick", desc := "(I)I" } : MethodName) prog_4_method_3_code (2 : Nat) (Option.some FieldType.int)) ∈ gW := mem_t4 6 (by decide +kernel) (by decide +kernel)
theorem wm_12 : (Cond.initialized "SmokeRings$Few") ∈ gW := mem_t1 12 (by decide +kernel) (by decide +kernel)
theorem wm_724 : (Cond.instanceMethod ({ cls := "SmokeRings$Few", name := "pick", desc := "(I)I" } : MethodName)) ∈ gW := mem_t4 4 (by decide +kernel) (by decide +kernel)
theorem wm_725 : (Cond.selects "SmokeRings$Few" ({ cls := "SmokeRings$Few", name := "pick", desc := "(I)I" } : MethodName) ({ cls := "SmokeRings$Few", name := "pick", desc := "(I)I" } : MethodName)) ∈ gW := mem_t4 5 (by decide +kernel) (by decide +kernel)
theorem mv_RX11_247 : sr_MV RX11 247 yX2_pick cX2_pick 2 (some .int) 1 2 := ⟨⟨(RX2, TX2, 3), rfl, rfl⟩, wm_723, wm_724, wm_725, wm_12, wm_726, ⟨by decide +kernel, by decide +kernel⟩, by decide +kernel, by decide⟩
theorem wm_731 : (Cond.methodLink "SmokeRings" (252 : Nat) ({ cls := "SmokeRings$Plans", name := "seekCalm", desc := "()V" } : MethodName)) ∈ gW := mem_t4 11 (by decide +kernel) (by decide +kernel)
theorem wm_734 : (Cond.code ({ cls := "SmokeRings$Plans", name := "seekCalm", desc := "()V" } : MethodName) prog_7_method_7_code (4 : Nat) (Option.none : Option FieldType)) ∈ gW := mem_t4 14 (by decide +kernel) (by decide +kernel)
theorem wm_732 : (Cond.instanceMethod ({ cls := "SmokeRings$Plans", name := "seekCalm", desc := "()V" } : MethodName)) ∈ gW := mem_t4 12 (by decide +kernel) (by decide +kernel)
theorem wm_733 : (Cond.selects "SmokeRings$Plans" ({ cls := "SmokeRings$Plans", name := "seekCalm", desc := "()V" } : MethodName) ({ cls := "SmokeRings$Plans", name := "seekCalm", desc := "()V" } : MethodName)) ∈ gW := mem_t4 13 (by decide +kernel) (by decide +kernel)
theorem mv_RX11_252 : sr_MV RX11 252 yX5_seekCalm cX5_seekCalm 4 none 0 5 := ⟨⟨(RX5, TX5, 10), rfl, rfl⟩, wm_731, wm_732, wm_733, wm_11, wm_734, ⟨by decide +kernel, by decide +kernel⟩, by decide +kernel, by decide⟩
theorem wm_739 : (Cond.methodLink "SmokeRings" (261 : Nat) ({ cls := "SmokeRings$Plans", name := "seekFree", desc := "(LSmokeRings$Play;II)V" } : MethodName)) ∈ gW := mem_t4 19 (by decide +kernel) (by decide +kernel)
theorem wm_742 : (Cond.code ({ cls := "SmokeRings$Plans", name := "seekFree", desc := "(LSmokeRings$Play;II)V" } : MethodName) prog_7_method_8_code (8 : Nat) (Option.none : Option FieldType)) ∈ gW := mem_t4 22 (by decide +kernel) (by decide +kernel)
theorem wm_740 : (Cond.instanceMethod ({ cls := "SmokeRings$Plans", name := "seekFree", desc := "(LSmokeRings$Play;II)V" } : MethodName)) ∈ gW := mem_t4 20 (by decide +kernel) (by decide +kernel)
theorem wm_741 : (Cond.selects "SmokeRings$Plans" ({ cls := "SmokeRings$Plans", name := "seekFree", desc := "(LSmokeRings$Play;II)V" } : MethodName) ({ cls := "SmokeRings$Plans", name := "seekFree", desc := "(LSmokeRings$Play;II)V" } : MethodName)) ∈ gW := mem_t4 21 (by decide +kernel) (by decide +kernel)
theorem mv_RX11_261 : sr_MV RX11 261 yX5_seekFree cX5_seekFree 8 none 3 5 := ⟨⟨(RX5, TX5, 10), rfl, rfl⟩, wm_739, wm_740, wm_741, wm_11, wm_742, ⟨by decide +kernel, by decide +kernel⟩, by decide +kernel, by decide⟩
theorem wm_750 : (Cond.methodLink "SmokeRings" (265 : Nat) ({ cls := "SmokeRings$Sights", name := "note", desc := "(II)Z" } : MethodName)) ∈ gW := mem_t4 30 (by decide +kernel) (by decide +kernel)
theorem wm_753 : (Cond.code ({ cls := "SmokeRings$Sights", name := "note", desc := "(II)Z" } : MethodName) prog_10_method_2_code (3 : Nat) (Option.some FieldType.boolean)) ∈ gW := mem_t4 33 (by decide +kernel) (by decide +kernel)
theorem wm_7 : (Cond.initialized "SmokeRings$Sights") ∈ gW := mem_t1 7 (by decide +kernel) (by decide +kernel)
theorem wm_751 : (Cond.instanceMethod ({ cls := "SmokeRings$Sights", name := "note", desc := "(II)Z" } : MethodName)) ∈ gW := mem_t4 31 (by decide +kernel) (by decide +kernel)
theorem wm_752 : (Cond.selects "SmokeRings$Sights" ({ cls := "SmokeRings$Sights", name := "note", desc := "(II)Z" } : MethodName) ({ cls := "SmokeRings$Sights", name := "note", desc := "(II)Z" } : MethodName)) ∈ gW := mem_t4 32 (by decide +kernel) (by decide +kernel)
theorem mv_RX11_265 : sr_MV RX11 265 yX8_note cX8_note 3 (some .boolean) 2 8 := ⟨⟨(RX8, TX8, 3), rfl, rfl⟩, wm_750, wm_751, wm_752, wm_7, wm_753, ⟨by decide +kernel, by decide +kernel⟩, by decide +kernel, by decide⟩
theorem wm_762 : (Cond.methodLink "SmokeRings" (270 : Nat) ({ cls := "SmokeRings$Guesses", name := "neverBits", desc := "()I" } : MethodName)) ∈ gW := mem_t4 42 (by decide +kernel) (by decide +kernel)
theorem wm_765 : (Cond.code ({ cls := "SmokeRings$Guesses", name := "neverBits", desc := "()I" } : MethodName) prog_5_method_3_code (3 : Nat) (Option.some FieldType.int)) ∈ gW := mem_t4 45 (by decide +kernel) (by decide +kernel)
theorem wm_13 : (Cond.initialized "SmokeRings$Guesses") ∈ gW := mem_t1 13 (by decide +kernel) (by decide +kernel)
theorem wm_763 : (Cond.instanceMethod ({ cls := "SmokeRings$Guesses", name := "neverBits", desc := "()I" } : MethodName)) ∈ gW := mem_t4 43 (by decide +kernel) (by decide +kernel)
theorem wm_764 : (Cond.selects "SmokeRings$Guesses" ({ cls := "SmokeRings$Guesses", name := "neverBits", desc := "()I" } : MethodName) ({ cls := "SmokeRings$Guesses", name := "neverBits", desc := "()I" } : MethodName)) ∈ gW := mem_t4 44 (by decide +kernel) (by decide +kernel)
theorem mv_RX11_270 : sr_MV RX11 270 yX3_neverBits cX3_neverBits 3 (some .int) 0 3 := ⟨⟨(RX3, TX3, 7), rfl, rfl⟩, wm_762, wm_763, wm_764, wm_13, wm_765, ⟨by decide +kernel, by decide +kernel⟩, by decide +kernel, by decide⟩
theorem wm_784 : (Cond.methodLink "SmokeRings" (274 : Nat) ({ cls := "SmokeRings$Guesses", name := "seekWhence", desc := "(I)V" } : MethodName)) ∈ gW := mem_t4 64 (by decide +kernel) (by decide +kernel)
theorem wm_787 : (Cond.code ({ cls := "SmokeRings$Guesses", name := "seekWhence", desc := "(I)V" } : MethodName) prog_5_method_4_code (3 : Nat) (Option.none : Option FieldType)) ∈ gW := mem_t4 67 (by decide +kernel) (by decide +kernel)
theorem wm_785 : (Cond.instanceMethod ({ cls := "SmokeRings$Guesses", name := "seekWhence", desc := "(I)V" } : MethodName)) ∈ gW := mem_t4 65 (by decide +kernel) (by decide +kernel)
theorem wm_786 : (Cond.selects "SmokeRings$Guesses" ({ cls := "SmokeRings$Guesses", name := "seekWhence", desc := "(I)V" } : MethodName) ({ cls := "SmokeRings$Guesses", name := "seekWhence", desc := "(I)V" } : MethodName)) ∈ gW := mem_t4 66 (by decide +kernel) (by decide +kernel)
theorem mv_RX11_274 : sr_MV RX11 274 yX3_seekWhence cX3_seekWhence 3 none 1 3 := ⟨⟨(RX3, TX3, 7), rfl, rfl⟩, wm_784, wm_785, wm_786, wm_13, wm_787, ⟨by decide +kernel, by decide +kernel⟩, by decide +kernel, by decide⟩
theorem wm_788 : (Cond.methodLink "SmokeRings" (277 : Nat) ({ cls := "SmokeRings$Guesses", name := "pickWhence", desc := "(I)I" } : MethodName)) ∈ gW := mem_t4 68 (by decide +kernel) (by decide +kernel)
theorem wm_791 : (Cond.code ({ cls := "SmokeRings$Guesses", name := "pickWhence", desc := "(I)I" } : MethodName) prog_5_method_5_code (4 : Nat) (Option.some FieldType.int)) ∈ gW := mem_t4 71 (by decide +kernel) (by decide +kernel)
theorem wm_789 : (Cond.instanceMethod ({ cls := "SmokeRings$Guesses", name := "pickWhence", desc := "(I)I" } : MethodName)) ∈ gW := mem_t4 69 (by decide +kernel) (by decide +kernel)
theorem wm_790 : (Cond.selects "SmokeRings$Guesses" ({ cls := "SmokeRings$Guesses", name := "pickWhence", desc := "(I)I" } : MethodName) ({ cls := "SmokeRings$Guesses", name := "pickWhence", desc := "(I)I" } : MethodName)) ∈ gW := mem_t4 70 (by decide +kernel) (by decide +kernel)
theorem mv_RX11_277 : sr_MV RX11 277 yX3_pickWhence cX3_pickWhence 4 (some .int) 1 3 := ⟨⟨(RX3, TX3, 7), rfl, rfl⟩, wm_788, wm_789, wm_790, wm_13, wm_791, ⟨by decide +kernel, by decide +kernel⟩, by decide +kernel, by decide⟩
theorem wm_802 : (Cond.methodLink "SmokeRings" (280 : Nat) ({ cls := "SmokeRings$Guesses", name := "paceBits", desc := "()I" } : MethodName)) ∈ gW := mem_t4 82 (by decide +kernel) (by decide +kernel)
theorem wm_805 : (Cond.code ({ cls := "SmokeRings$Guesses", name := "paceBits", desc := "()I" } : MethodName) prog_5_method_6_code (3 : Nat) (Option.some FieldType.int)) ∈ gW := mem_t4 85 (by decide +kernel) (by decide +kernel)
theorem wm_803 : (Cond.instanceMethod ({ cls := "SmokeRings$Guesses", name := "paceBits", desc := "()I" } : MethodName)) ∈ gW := mem_t4 83 (by decide +kernel) (by decide +kernel)
theorem wm_804 : (Cond.selects "SmokeRings$Guesses" ({ cls := "SmokeRings$Guesses", name := "paceBits", desc := "()I" } : MethodName) ({ cls := "SmokeRings$Guesses", name := "paceBits", desc := "()I" } : MethodName)) ∈ gW := mem_t4 84 (by decide +kernel) (by decide +kernel)
theorem mv_RX11_280 : sr_MV RX11 280 yX3_paceBits cX3_paceBits 3 (some .int) 0 3 := ⟨⟨(RX3, TX3, 7), rfl, rfl⟩, wm_802, wm_803, wm_804, wm_13, wm_805, ⟨by decide +kernel, by decide +kernel⟩, by decide +kernel, by decide⟩
theorem wm_810 : (Cond.methodLink "SmokeRings" (283 : Nat) ({ cls := "SmokeRings$Guesses", name := "bestAsk", desc := "()I" } : MethodName)) ∈ gW := mem_t4 90 (by decide +kernel) (by decide +kernel)
theorem wm_813 : (Cond.code ({ cls := "SmokeRings$Guesses", name := "bestAsk", desc := "()I" } : MethodName) prog_5_method_7_code (5 : Nat) (Option.some FieldType.int)) ∈ gW := mem_t4 93 (by decide +kernel) (by decide +kernel)
theorem wm_811 : (Cond.instanceMethod ({ cls := "SmokeRings$Guesses", name := "bestAsk", desc := "()I" } : MethodName)) ∈ gW := mem_t4 91 (by decide +kernel) (by decide +kernel)
theorem wm_812 : (Cond.selects "SmokeRings$Guesses" ({ cls := "SmokeRings$Guesses", name := "bestAsk", desc := "()I" } : MethodName) ({ cls := "SmokeRings$Guesses", name := "bestAsk", desc := "()I" } : MethodName)) ∈ gW := mem_t4 92 (by decide +kernel) (by decide +kernel)
theorem mv_RX11_283 : sr_MV RX11 283 yX3_bestAsk cX3_bestAsk 5 (some .int) 0 3 := ⟨⟨(RX3, TX3, 7), rfl, rfl⟩, wm_810, wm_811, wm_812, wm_13, wm_813, ⟨by decide +kernel, by decide +kernel⟩, by decide +kernel, by decide⟩
theorem wm_830 : (Cond.methodLink "SmokeRings" (288 : Nat) ({ cls := "SmokeRings$Chances", name := "weigh", desc := "(II)V" } : MethodName)) ∈ gW := mem_t4 110 (by decide +kernel) (by decide +kernel)
theorem wm_833 : (Cond.code ({ cls := "SmokeRings$Chances", name := "weigh", desc := "(II)V" } : MethodName) prog_2_method_2_code (7 : Nat) (Option.none : Option FieldType)) ∈ gW := mem_t4 113 (by decide +kernel) (by decide +kernel)
theorem wm_14 : (Cond.initialized "SmokeRings$Chances") ∈ gW := mem_t1 14 (by decide +kernel) (by decide +kernel)
theorem wm_831 : (Cond.instanceMethod ({ cls := "SmokeRings$Chances", name := "weigh", desc := "(II)V" } : MethodName)) ∈ gW := mem_t4 111 (by decide +kernel) (by decide +kernel)
theorem wm_832 : (Cond.selects "SmokeRings$Chances" ({ cls := "SmokeRings$Chances", name := "weigh", desc := "(II)V" } : MethodName) ({ cls := "SmokeRings$Chances", name := "weigh", desc := "(II)V" } : MethodName)) ∈ gW := mem_t4 112 (by decide +kernel) (by decide +kernel)
theorem mv_RX11_288 : sr_MV RX11 288 yX0_weigh cX0_weigh 7 none 2 0 := ⟨⟨(RX0, TX0, 10), rfl, rfl⟩, wm_830, wm_831, wm_832, wm_14, wm_833, ⟨by decide +kernel, by decide +kernel⟩, by decide +kernel, by decide⟩
theorem wm_852 : (Cond.methodLink "SmokeRings" (292 : Nat) ({ cls := "SmokeRings$Chances", name := "above", desc := "(II)J" } : MethodName)) ∈ gW := mem_t4 132 (by decide +kernel) (by decide +kernel)
theorem wm_855 : (Cond.code ({ cls := "SmokeRings$Chances", name := "above", desc := "(II)J" } : MethodName) prog_2_method_8_code (5 : Nat) (Option.some FieldType.long)) ∈ gW := mem_t4 135 (by decide +kernel) (by decide +kernel)
theorem wm_853 : (Cond.instanceMethod ({ cls := "SmokeRings$Chances", name := "above", desc := "(II)J" } : MethodName)) ∈ gW := mem_t4 133 (by decide +kernel) (by decide +kernel)
theorem wm_854 : (Cond.selects "SmokeRings$Chances" ({ cls := "SmokeRings$Chances", name := "above", desc := "(II)J" } : MethodName) ({ cls := "SmokeRings$Chances", name := "above", desc := "(II)J" } : MethodName)) ∈ gW := mem_t4 134 (by decide +kernel) (by decide +kernel)
theorem mv_RX11_292 : sr_MV RX11 292 yX0_above cX0_above 5 (some .long) 2 0 := ⟨⟨(RX0, TX0, 10), rfl, rfl⟩, wm_852, wm_853, wm_854, wm_14, wm_855, ⟨by decide +kernel, by decide +kernel⟩, by decide +kernel, by decide⟩
theorem wm_864 : (Cond.methodLink "SmokeRings" (296 : Nat) ({ cls := "SmokeRings$Chances", name := "below", desc := "(II)J" } : MethodName)) ∈ gW := mem_t4 144 (by decide +kernel) (by decide +kernel)
theorem wm_867 : (Cond.code ({ cls := "SmokeRings$Chances", name := "below", desc := "(II)J" } : MethodName) prog_2_method_9_code (3 : Nat) (Option.some FieldType.long)) ∈ gW := mem_t4 147 (by decide +kernel) (by decide +kernel)
theorem wm_865 : (Cond.instanceMethod ({ cls := "SmokeRings$Chances", name := "below", desc := "(II)J" } : MethodName)) ∈ gW := mem_t4 145 (by decide +kernel) (by decide +kernel)
theorem wm_866 : (Cond.selects "SmokeRings$Chances" ({ cls := "SmokeRings$Chances", name := "below", desc := "(II)J" } : MethodName) ({ cls := "SmokeRings$Chances", name := "below", desc := "(II)J" } : MethodName)) ∈ gW := mem_t4 146 (by decide +kernel) (by decide +kernel)
theorem mv_RX11_296 : sr_MV RX11 296 yX0_below cX0_below 3 (some .long) 2 0 := ⟨⟨(RX0, TX0, 10), rfl, rfl⟩, wm_864, wm_865, wm_866, wm_14, wm_867, ⟨by decide +kernel, by decide +kernel⟩, by decide +kernel, by decide⟩
theorem wm_872 : (Cond.methodLink "SmokeRings" (299 : Nat) ({ cls := "SmokeRings$Chances", name := "playLots", desc := "(II)V" } : MethodName)) ∈ gW := mem_t4 152 (by decide +kernel) (by decide +kernel)
theorem wm_875 : (Cond.code ({ cls := "SmokeRings$Chances", name := "playLots", desc := "(II)V" } : MethodName) prog_2_method_10_code (7 : Nat) (Option.none : Option FieldType)) ∈ gW := mem_t4 155 (by decide +kernel) (by decide +kernel)
theorem wm_873 : (Cond.instanceMethod ({ cls := "SmokeRings$Chances", name := "playLots", desc := "(II)V" } : MethodName)) ∈ gW := mem_t4 153 (by decide +kernel) (by decide +kernel)
theorem wm_874 : (Cond.selects "SmokeRings$Chances" ({ cls := "SmokeRings$Chances", name := "playLots", desc := "(II)V" } : MethodName) ({ cls := "SmokeRings$Chances", name := "playLots", desc := "(II)V" } : MethodName)) ∈ gW := mem_t4 154 (by decide +kernel) (by decide +kernel)
theorem mv_RX11_299 : sr_MV RX11 299 yX0_playLots cX0_playLots 7 none 2 0 := ⟨⟨(RX0, TX0, 10), rfl, rfl⟩, wm_872, wm_873, wm_874, wm_14, wm_875, ⟨by decide +kernel, by decide +kernel⟩, by decide +kernel, by decide⟩
theorem wm_890 : (Cond.methodLink "SmokeRings" (308 : Nat) ({ cls := "SmokeRings$Sheet", name := "renew", desc := "(II)V" } : MethodName)) ∈ gW := mem_t4 170 (by decide +kernel) (by decide +kernel)
theorem wm_893 : (Cond.code ({ cls := "SmokeRings$Sheet", name := "renew", desc := "(II)V" } : MethodName) prog_9_method_3_code (3 : Nat) (Option.none : Option FieldType)) ∈ gW := mem_t4 173 (by decide +kernel) (by decide +kernel)
theorem wm_891 : (Cond.instanceMethod ({ cls := "SmokeRings$Sheet", name := "renew", desc := "(II)V" } : MethodName)) ∈ gW := mem_t4 171 (by decide +kernel) (by decide +kernel)
theorem wm_892 : (Cond.selects "SmokeRings$Sheet" ({ cls := "SmokeRings$Sheet", name := "renew", desc := "(II)V" } : MethodName) ({ cls := "SmokeRings$Sheet", name := "renew", desc := "(II)V" } : MethodName)) ∈ gW := mem_t4 172 (by decide +kernel) (by decide +kernel)
theorem mv_RX11_308 : sr_MV RX11 308 yX7_renew cX7_renew 3 none 2 7 := ⟨⟨(RX7, TX7, 3), rfl, rfl⟩, wm_890, wm_891, wm_892, wm_10, wm_893, ⟨by decide +kernel, by decide +kernel⟩, by decide +kernel, by decide⟩
theorem wm_905 : (Cond.methodLink "SmokeRings" (311 : Nat) ({ cls := "SmokeRings$Sheet", name := "trouble", desc := "(II)I" } : MethodName)) ∈ gW := mem_t4 185 (by decide +kernel) (by decide +kernel)
theorem wm_908 : (Cond.code ({ cls := "SmokeRings$Sheet", name := "trouble", desc := "(II)I" } : MethodName) prog_9_method_4_code (3 : Nat) (Option.some FieldType.int)) ∈ gW := mem_t4 188 (by decide +kernel) (by decide +kernel)
theorem wm_906 : (Cond.instanceMethod ({ cls := "SmokeRings$Sheet", name := "trouble", desc := "(II)I" } : MethodName)) ∈ gW := mem_t4 186 (by decide +kernel) (by decide +kernel)
theorem wm_907 : (Cond.selects "SmokeRings$Sheet" ({ cls := "SmokeRings$Sheet", name := "trouble", desc := "(II)I" } : MethodName) ({ cls := "SmokeRings$Sheet", name := "trouble", desc := "(II)I" } : MethodName)) ∈ gW := mem_t4 187 (by decide +kernel) (by decide +kernel)
theorem mv_RX11_311 : sr_MV RX11 311 yX7_trouble cX7_trouble 3 (some .int) 2 7 := ⟨⟨(RX7, TX7, 3), rfl, rfl⟩, wm_905, wm_906, wm_907, wm_10, wm_908, ⟨by decide +kernel, by decide +kernel⟩, by decide +kernel, by decide⟩
theorem wm_910 : (Cond.methodLink "SmokeRings" (314 : Nat) ({ cls := "SmokeRings$Sheet", name := "put", desc := "(II)V" } : MethodName)) ∈ gW := mem_t4 190 (by decide +kernel) (by decide +kernel)
theorem wm_913 : (Cond.code ({ cls := "SmokeRings$Sheet", name := "put", desc := "(II)V" } : MethodName) prog_9_method_8_code (3 : Nat) (Option.none : Option FieldType)) ∈ gW := mem_t4 193 (by decide +kernel) (by decide +kernel)
theorem wm_911 : (Cond.instanceMethod ({ cls := "SmokeRings$Sheet", name := "put", desc := "(II)V" } : MethodName)) ∈ gW := mem_t4 191 (by decide +kernel) (by decide +kernel)
theorem wm_912 : (Cond.selects "SmokeRings$Sheet" ({ cls := "SmokeRings$Sheet", name := "put", desc := "(II)V" } : MethodName) ({ cls := "SmokeRings$Sheet", name := "put", desc := "(II)V" } : MethodName)) ∈ gW := mem_t4 192 (by decide +kernel) (by decide +kernel)
theorem mv_RX11_314 : sr_MV RX11 314 yX7_put cX7_put 3 none 2 7 := ⟨⟨(RX7, TX7, 3), rfl, rfl⟩, wm_910, wm_911, wm_912, wm_10, wm_913, ⟨by decide +kernel, by decide +kernel⟩, by decide +kernel, by decide⟩
theorem wm_923 : (Cond.methodLink "SmokeRings" (321 : Nat) ({ cls := "SmokeRings$Sheet", name := "hasRun", desc := "(II)Z" } : MethodName)) ∈ gW := mem_t4 203 (by decide +kernel) (by decide +kernel)
theorem wm_926 : (Cond.code ({ cls := "SmokeRings$Sheet", name := "hasRun", desc := "(II)Z" } : MethodName) prog_9_method_6_code (3 : Nat) (Option.some FieldType.boolean)) ∈ gW := mem_t4 206 (by decide +kernel) (by decide +kernel)
theorem wm_924 : (Cond.instanceMethod ({ cls := "SmokeRings$Sheet", name := "hasRun", desc := "(II)Z" } : MethodName)) ∈ gW := mem_t4 204 (by decide +kernel) (by decide +kernel)
theorem wm_925 : (Cond.selects "SmokeRings$Sheet" ({ cls := "SmokeRings$Sheet", name := "hasRun", desc := "(II)Z" } : MethodName) ({ cls := "SmokeRings$Sheet", name := "hasRun", desc := "(II)Z" } : MethodName)) ∈ gW := mem_t4 205 (by decide +kernel) (by decide +kernel)
theorem mv_RX11_321 : sr_MV RX11 321 yX7_hasRun cX7_hasRun 3 (some .boolean) 2 7 := ⟨⟨(RX7, TX7, 3), rfl, rfl⟩, wm_923, wm_924, wm_925, wm_10, wm_926, ⟨by decide +kernel, by decide +kernel⟩, by decide +kernel, by decide⟩
theorem wm_932 : (Cond.methodLink "SmokeRings" (333 : Nat) ({ cls := "java/lang/Math", name := "min", desc := "(II)I" } : MethodName)) ∈ gW := mem_t4 212 (by decide +kernel) (by decide +kernel)
theorem wm_490 : (Cond.code ({ cls := "java/lang/Math", name := "min", desc := "(II)I" } : MethodName) prog_17_method_69_code (2 : Nat) (Option.some FieldType.int)) ∈ gW := mem_t3 10 (by decide +kernel) (by decide +kernel)
theorem wm_9 : (Cond.initialized "java/lang/Math") ∈ gW := mem_t1 9 (by decide +kernel) (by decide +kernel)
theorem wm_489 : (Cond.static ({ cls := "java/lang/Math", name := "min", desc := "(II)I" } : MethodName)) ∈ gW := mem_t3 9 (by decide +kernel) (by decide +kernel)
theorem ms_RX11_333 : sr_MS RX11 333 yJ9_min_7cf53 cJ9_min_7cf53 2 (some .int) 2 := ⟨wm_932, wm_489, wm_9, wm_490, ⟨by decide +kernel, by decide +kernel⟩, by decide +kernel, by decide⟩
theorem wm_942 : (Cond.methodLink "SmokeRings" (343 : Nat) ({ cls := "SmokeRings", name := "count", desc := "(I)I" } : MethodName)) ∈ gW := mem_t4 222 (by decide +kernel) (by decide +kernel)
theorem wm_936 : (Cond.code ({ cls := "SmokeRings", name := "count", desc := "(I)I" } : MethodName) prog_1_method_41_code (2 : Nat) (Option.some FieldType.int)) ∈ gW := mem_t4 216 (by decide +kernel) (by decide +kernel)
theorem wm_934 : (Cond.instanceMethod ({ cls := "SmokeRings", name := "count", desc := "(I)I" } : MethodName)) ∈ gW := mem_t4 214 (by decide +kernel) (by decide +kernel)
theorem wm_935 : (Cond.selects "SmokeRings" ({ cls := "SmokeRings", name := "count", desc := "(I)I" } : MethodName) ({ cls := "SmokeRings", name := "count", desc := "(I)I" } : MethodName)) ∈ gW := mem_t4 215 (by decide +kernel) (by decide +kernel)
theorem mv_RX11_343 : sr_MV RX11 343 yX11_count cX11_count 2 (some .int) 1 11 := ⟨⟨(RX11, TX11, 13), rfl, rfl⟩, wm_942, wm_934, wm_935, wm_1, wm_936, ⟨by decide +kernel, by decide +kernel⟩, by decide +kernel, by decide⟩
theorem wm_943 : (Cond.methodLink "SmokeRings" (346 : Nat) ({ cls := "SmokeRings", name := "mixed", desc := "(JJ)J" } : MethodName)) ∈ gW := mem_t4 223 (by decide +kernel) (by decide +kernel)
theorem wm_945 : (Cond.code ({ cls := "SmokeRings", name := "mixed", desc := "(JJ)J" } : MethodName) prog_1_method_47_code (4 : Nat) (Option.some FieldType.long)) ∈ gW := mem_t4 225 (by decide +kernel) (by decide +kernel)
theorem wm_944 : (Cond.static ({ cls := "SmokeRings", name := "mixed", desc := "(JJ)J" } : MethodName)) ∈ gW := mem_t4 224 (by decide +kernel) (by decide +kernel)
theorem ms_RX11_346 : sr_MS RX11 346 yX11_mixed cX11_mixed 4 (some .long) 2 := ⟨wm_943, wm_944, wm_1, wm_945, ⟨by decide +kernel, by decide +kernel⟩, by decide +kernel, by decide⟩
theorem wm_947 : (Cond.methodLink "SmokeRings" (350 : Nat) ({ cls := "SmokeRings", name := "cell", desc := "(I)I" } : MethodName)) ∈ gW := mem_t4 227 (by decide +kernel) (by decide +kernel)
theorem wm_513 : (Cond.code ({ cls := "SmokeRings", name := "cell", desc := "(I)I" } : MethodName) prog_1_method_6_code (2 : Nat) (Option.some FieldType.int)) ∈ gW := mem_t3 33 (by decide +kernel) (by decide +kernel)
theorem wm_511 : (Cond.instanceMethod ({ cls := "SmokeRings", name := "cell", desc := "(I)I" } : MethodName)) ∈ gW := mem_t3 31 (by decide +kernel) (by decide +kernel)
theorem wm_512 : (Cond.selects "SmokeRings" ({ cls := "SmokeRings", name := "cell", desc := "(I)I" } : MethodName) ({ cls := "SmokeRings", name := "cell", desc := "(I)I" } : MethodName)) ∈ gW := mem_t3 32 (by decide +kernel) (by decide +kernel)
theorem mv_RX11_350 : sr_MV RX11 350 yX11_cell cX11_cell 2 (some .int) 1 11 := ⟨⟨(RX11, TX11, 13), rfl, rfl⟩, wm_947, wm_511, wm_512, wm_1, wm_513, ⟨by decide +kernel, by decide +kernel⟩, by decide +kernel, by decide⟩
theorem wm_948 : (Cond.methodLink "SmokeRings" (353 : Nat) ({ cls := "SmokeRings", name := "digestRing", desc := "(JI)J" } : MethodName)) ∈ gW := mem_t4 228 (by decide +kernel) (by decide +kernel)
theorem wm_951 : (Cond.code ({ cls := "SmokeRings", name := "digestRing", desc := "(JI)J" } : MethodName) prog_1_method_43_code (8 : Nat) (Option.some FieldType.long)) ∈ gW := mem_t4 231 (by decide +kernel) (by decide +kernel)
theorem wm_950 : (Cond.instanceMethod ({ cls := "SmokeRings", name := "digestRing", desc := "(JI)J" } : MethodName)) ∈ gW := mem_t4 230 (by decide +kernel) (by decide +kernel)
theorem pv_X11_digestRing : Cond.selects yX11_digestRing.cls yX11_digestRing yX11_digestRing ∈ gW := mem_prv (n := 13) (by decide +kernel) (by decide +kernel)
theorem mv_RX11_353 : sr_MV RX11 353 yX11_digestRing cX11_digestRing 8 (some .long) 2 11 := ⟨⟨(RX11, TX11, 13), rfl, rfl⟩, wm_948, wm_950, pv_X11_digestRing, wm_1, wm_951, ⟨by decide +kernel, by decide +kernel⟩, by decide +kernel, by decide⟩
theorem wm_956 : (Cond.methodLink "SmokeRings" (357 : Nat) ({ cls := "SmokeRings", name := "digestThing", desc := "(JI)J" } : MethodName)) ∈ gW := mem_t4 236 (by decide +kernel) (by decide +kernel)
theorem wm_959 : (Cond.code ({ cls := "SmokeRings", name := "digestThing", desc := "(JI)J" } : MethodName) prog_1_method_44_code (7 : Nat) (Option.some FieldType.long)) ∈ gW := mem_t4 239 (by decide +kernel) (by decide +kernel)
theorem wm_958 : (Cond.instanceMethod ({ cls := "SmokeRings", name := "digestThing", desc := "(JI)J" } : MethodName)) ∈ gW := mem_t4 238 (by decide +kernel) (by decide +kernel)
theorem pv_X11_digestThing : Cond.selects yX11_digestThing.cls yX11_digestThing yX11_digestThing ∈ gW := mem_prv (n := 13) (by decide +kernel) (by decide +kernel)
theorem mv_RX11_357 : sr_MV RX11 357 yX11_digestThing cX11_digestThing 7 (some .long) 2 11 := ⟨⟨(RX11, TX11, 13), rfl, rfl⟩, wm_956, wm_958, pv_X11_digestThing, wm_1, wm_959, ⟨by decide +kernel, by decide +kernel⟩, by decide +kernel, by decide⟩
theorem wm_961 : (Cond.methodLink "SmokeRings" (360 : Nat) ({ cls := "SmokeRings", name := "digestWhom", desc := "(JI)J" } : MethodName)) ∈ gW := mem_t5 1 (by decide +kernel) (by decide +kernel)
theorem wm_964 : (Cond.code ({ cls := "SmokeRings", name := "digestWhom", desc := "(JI)J" } : MethodName) prog_1_method_45_code (6 : Nat) (Option.some FieldType.long)) ∈ gW := mem_t5 4 (by decide +kernel) (by decide +kernel)
theorem wm_963 : (Cond.instanceMethod ({ cls := "SmokeRings", name := "digestWhom", desc := "(JI)J" } : MethodName)) ∈ gW := mem_t5 3 (by decide +kernel) (by decide +kernel)
theorem pv_X11_digestWhom : Cond.selects yX11_digestWhom.cls yX11_digestWhom yX11_digestWhom ∈ gW := mem_prv (n := 13) (by decide +kernel) (by decide +kernel)
theorem mv_RX11_360 : sr_MV RX11 360 yX11_digestWhom cX11_digestWhom 6 (some .long) 2 11 := ⟨⟨(RX11, TX11, 13), rfl, rfl⟩, wm_961, wm_963, pv_X11_digestWhom, wm_1, wm_964, ⟨by decide +kernel, by decide +kernel⟩, by decide +kernel, by decide⟩
theorem wm_965 : (Cond.methodLink "SmokeRings" (363 : Nat) ({ cls := "SmokeRings", name := "digestRest", desc := "(J)J" } : MethodName)) ∈ gW := mem_t5 5 (by decide +kernel) (by decide +kernel)
theorem wm_968 : (Cond.code ({ cls := "SmokeRings", name := "digestRest", desc := "(J)J" } : MethodName) prog_1_method_46_code (5 : Nat) (Option.some FieldType.long)) ∈ gW := mem_t5 8 (by decide +kernel) (by decide +kernel)
theorem wm_967 : (Cond.instanceMethod ({ cls := "SmokeRings", name := "digestRest", desc := "(J)J" } : MethodName)) ∈ gW := mem_t5 7 (by decide +kernel) (by decide +kernel)
theorem pv_X11_digestRest : Cond.selects yX11_digestRest.cls yX11_digestRest yX11_digestRest ∈ gW := mem_prv (n := 13) (by decide +kernel) (by decide +kernel)
theorem mv_RX11_363 : sr_MV RX11 363 yX11_digestRest cX11_digestRest 5 (some .long) 1 11 := ⟨⟨(RX11, TX11, 13), rfl, rfl⟩, wm_965, wm_967, pv_X11_digestRest, wm_1, wm_968, ⟨by decide +kernel, by decide +kernel⟩, by decide +kernel, by decide⟩
theorem wm_952 : (Cond.methodLink "SmokeRings" (367 : Nat) ({ cls := "SmokeRings", name := "ring", desc := "(II)I" } : MethodName)) ∈ gW := mem_t4 232 (by decide +kernel) (by decide +kernel)
theorem wm_545 : (Cond.code ({ cls := "SmokeRings", name := "ring", desc := "(II)I" } : MethodName) prog_1_method_11_code (3 : Nat) (Option.some FieldType.int)) ∈ gW := mem_t3 65 (by decide +kernel) (by decide +kernel)
theorem wm_543 : (Cond.instanceMethod ({ cls := "SmokeRings", name := "ring", desc := "(II)I" } : MethodName)) ∈ gW := mem_t3 63 (by decide +kernel) (by decide +kernel)
theorem wm_544 : (Cond.selects "SmokeRings" ({ cls := "SmokeRings", name := "ring", desc := "(II)I" } : MethodName) ({ cls := "SmokeRings", name := "ring", desc := "(II)I" } : MethodName)) ∈ gW := mem_t3 64 (by decide +kernel) (by decide +kernel)
theorem mv_RX11_367 : sr_MV RX11 367 yX11_ring cX11_ring 3 (some .int) 2 11 := ⟨⟨(RX11, TX11, 13), rfl, rfl⟩, wm_952, wm_543, wm_544, wm_1, wm_545, ⟨by decide +kernel, by decide +kernel⟩, by decide +kernel, by decide⟩
theorem wm_960 : (Cond.methodLink "SmokeRings" (375 : Nat) ({ cls := "SmokeRings", name := "thing", desc := "(II)I" } : MethodName)) ∈ gW := mem_t5 0 (by decide +kernel) (by decide +kernel)
theorem wm_518 : (Cond.code ({ cls := "SmokeRings", name := "thing", desc := "(II)I" } : MethodName) prog_1_method_7_code (3 : Nat) (Option.some FieldType.int)) ∈ gW := mem_t3 38 (by decide +kernel) (by decide +kernel)
theorem wm_516 : (Cond.instanceMethod ({ cls := "SmokeRings", name := "thing", desc := "(II)I" } : MethodName)) ∈ gW := mem_t3 36 (by decide +kernel) (by decide +kernel)
theorem wm_517 : (Cond.selects "SmokeRings" ({ cls := "SmokeRings", name := "thing", desc := "(II)I" } : MethodName) ({ cls := "SmokeRings", name := "thing", desc := "(II)I" } : MethodName)) ∈ gW := mem_t3 37 (by decide +kernel) (by decide +kernel)
theorem mv_RX11_375 : sr_MV RX11 375 yX11_thing cX11_thing 3 (some .int) 2 11 := ⟨⟨(RX11, TX11, 13), rfl, rfl⟩, wm_960, wm_516, wm_517, wm_1, wm_518, ⟨by decide +kernel, by decide +kernel⟩, by decide +kernel, by decide⟩
theorem wm_969 : (Cond.methodLink "SmokeRings" (378 : Nat) ({ cls := "SmokeRings", name := "missed", desc := "()I" } : MethodName)) ∈ gW := mem_t5 9 (by decide +kernel) (by decide +kernel)
theorem wm_654 : (Cond.code ({ cls := "SmokeRings", name := "missed", desc := "()I" } : MethodName) prog_1_method_18_code (3 : Nat) (Option.some FieldType.int)) ∈ gW := mem_t3 174 (by decide +kernel) (by decide +kernel)
theorem wm_652 : (Cond.instanceMethod ({ cls := "SmokeRings", name := "missed", desc := "()I" } : MethodName)) ∈ gW := mem_t3 172 (by decide +kernel) (by decide +kernel)
theorem wm_653 : (Cond.selects "SmokeRings" ({ cls := "SmokeRings", name := "missed", desc := "()I" } : MethodName) ({ cls := "SmokeRings", name := "missed", desc := "()I" } : MethodName)) ∈ gW := mem_t3 173 (by decide +kernel) (by decide +kernel)
theorem mv_RX11_378 : sr_MV RX11 378 yX11_missed cX11_missed 3 (some .int) 0 11 := ⟨⟨(RX11, TX11, 13), rfl, rfl⟩, wm_969, wm_652, wm_653, wm_1, wm_654, ⟨by decide +kernel, by decide +kernel⟩, by decide +kernel, by decide⟩
theorem wm_970 : (Cond.methodLink "SmokeRings" (381 : Nat) ({ cls := "SmokeRings", name := "richest", desc := "()I" } : MethodName)) ∈ gW := mem_t5 10 (by decide +kernel) (by decide +kernel)
theorem wm_658 : (Cond.code ({ cls := "SmokeRings", name := "richest", desc := "()I" } : MethodName) prog_1_method_19_code (5 : Nat) (Option.some FieldType.int)) ∈ gW := mem_t3 178 (by decide +kernel) (by decide +kernel)
theorem wm_656 : (Cond.instanceMethod ({ cls := "SmokeRings", name := "richest", desc := "()I" } : MethodName)) ∈ gW := mem_t3 176 (by decide +kernel) (by decide +kernel)
theorem wm_657 : (Cond.selects "SmokeRings" ({ cls := "SmokeRings", name := "richest", desc := "()I" } : MethodName) ({ cls := "SmokeRings", name := "richest", desc := "()I" } : MethodName)) ∈ gW := mem_t3 177 (by decide +kernel) (by decide +kernel)
theorem mv_RX11_381 : sr_MV RX11 381 yX11_richest cX11_richest 5 (some .int) 0 11 := ⟨⟨(RX11, TX11, 13), rfl, rfl⟩, wm_970, wm_656, wm_657, wm_1, wm_658, ⟨by decide +kernel, by decide +kernel⟩, by decide +kernel, by decide⟩
theorem wm_971 : (Cond.methodLink "SmokeRings" (384 : Nat) ({ cls := "SmokeRings", name := "lonely", desc := "()I" } : MethodName)) ∈ gW := mem_t5 11 (by decide +kernel) (by decide +kernel)
theorem wm_668 : (Cond.code ({ cls := "SmokeRings", name := "lonely", desc := "()I" } : MethodName) prog_1_method_20_code (4 : Nat) (Option.some FieldType.int)) ∈ gW := mem_t3 188 (by decide +kernel) (by decide +kernel)
theorem wm_666 : (Cond.instanceMethod ({ cls := "SmokeRings", name := "lonely", desc := "()I" } : MethodName)) ∈ gW := mem_t3 186 (by decide +kernel) (by decide +kernel)
theorem wm_667 : (Cond.selects "SmokeRings" ({ cls := "SmokeRings", name := "lonely", desc := "()I" } : MethodName) ({ cls := "SmokeRings", name := "lonely", desc := "()I" } : MethodName)) ∈ gW := mem_t3 187 (by decide +kernel) (by decide +kernel)
theorem mv_RX11_384 : sr_MV RX11 384 yX11_lonely cX11_lonely 4 (some .int) 0 11 := ⟨⟨(RX11, TX11, 13), rfl, rfl⟩, wm_971, wm_666, wm_667, wm_1, wm_668, ⟨by decide +kernel, by decide +kernel⟩, by decide +kernel, by decide⟩
theorem wm_450 : (Cond.methodLink "SmokeRings" (389 : Nat) ({ cls := "SmokeRings$Valley", name := "reread", desc := "(LSmokeRings$Text;)I" } : MethodName)) ∈ gW := mem_t2 210 (by decide +kernel) (by decide +kernel)
theorem wm_453 : (Cond.code ({ cls := "SmokeRings$Valley", name := "reread", desc := "(LSmokeRings$Text;)I" } : MethodName) prog_12_method_3_code (5 : Nat) (Option.some FieldType.int)) ∈ gW := mem_t2 213 (by decide +kernel) (by decide +kernel)
theorem wm_451 : (Cond.instanceMethod ({ cls := "SmokeRings$Valley", name := "reread", desc := "(LSmokeRings$Text;)I" } : MethodName)) ∈ gW := mem_t2 211 (by decide +kernel) (by decide +kernel)
theorem wm_452 : (Cond.selects "SmokeRings$Valley" ({ cls := "SmokeRings$Valley", name := "reread", desc := "(LSmokeRings$Text;)I" } : MethodName) ({ cls := "SmokeRings$Valley", name := "reread", desc := "(LSmokeRings$Text;)I" } : MethodName)) ∈ gW := mem_t2 212 (by decide +kernel) (by decide +kernel)
theorem mv_RX11_389 : sr_MV RX11 389 yX10_reread cX10_reread 5 (some .int) 1 10 := ⟨⟨(RX10, TX10, 3), rfl, rfl⟩, wm_450, wm_451, wm_452, wm_2, wm_453, ⟨by decide +kernel, by decide +kernel⟩, by decide +kernel, by decide⟩
theorem wm_477 : (Cond.methodLink "SmokeRings" (392 : Nat) ({ cls := "SmokeRings$Night", name := "rereadThings", desc := "(LSmokeRings$Text;)I" } : MethodName)) ∈ gW := mem_t2 237 (by decide +kernel) (by decide +kernel)
theorem wm_480 : (Cond.code ({ cls := "SmokeRings$Night", name := "rereadThings", desc := "(LSmokeRings$Text;)I" } : MethodName) prog_6_method_6_code (6 : Nat) (Option.some FieldType.int)) ∈ gW := mem_t3 0 (by decide +kernel) (by decide +kernel)
theorem wm_478 : (Cond.instanceMethod ({ cls := "SmokeRings$Night", name := "rereadThings", desc := "(LSmokeRings$Text;)I" } : MethodName)) ∈ gW := mem_t2 238 (by decide +kernel) (by decide +kernel)
theorem wm_479 : (Cond.selects "SmokeRings$Night" ({ cls := "SmokeRings$Night", name := "rereadThings", desc := "(LSmokeRings$Text;)I" } : MethodName) ({ cls := "SmokeRings$Night", name := "rereadThings", desc := "(LSmokeRings$Text;)I" } : MethodName)) ∈ gW := mem_t2 239 (by decide +kernel) (by decide +kernel)
theorem mv_RX11_392 : sr_MV RX11 392 yX4_rereadThings cX4_rereadThings 6 (some .int) 1 4 := ⟨⟨(RX4, TX4, 12), rfl, rfl⟩, wm_477, wm_478, wm_479, wm_3, wm_480, ⟨by decide +kernel, by decide +kernel⟩, by decide +kernel, by decide⟩
theorem wm_491 : (Cond.methodLink "SmokeRings" (395 : Nat) ({ cls := "SmokeRings$Night", name := "rereadWind", desc := "(LSmokeRings$Text;)I" } : MethodName)) ∈ gW := mem_t3 11 (by decide +kernel) (by decide +kernel)
theorem wm_494 : (Cond.code ({ cls := "SmokeRings$Night", name := "rereadWind", desc := "(LSmokeRings$Text;)I" } : MethodName) prog_6_method_9_code (4 : Nat) (Option.some FieldType.int)) ∈ gW := mem_t3 14 (by decide +kernel) (by decide +kernel)
theorem wm_492 : (Cond.instanceMethod ({ cls := "SmokeRings$Night", name := "rereadWind", desc := "(LSmokeRings$Text;)I" } : MethodName)) ∈ gW := mem_t3 12 (by decide +kernel) (by decide +kernel)
theorem wm_493 : (Cond.selects "SmokeRings$Night" ({ cls := "SmokeRings$Night", name := "rereadWind", desc := "(LSmokeRings$Text;)I" } : MethodName) ({ cls := "SmokeRings$Night", name := "rereadWind", desc := "(LSmokeRings$Text;)I" } : MethodName)) ∈ gW := mem_t3 13 (by decide +kernel) (by decide +kernel)
theorem mv_RX11_395 : sr_MV RX11 395 yX4_rereadWind cX4_rereadWind 4 (some .int) 1 4 := ⟨⟨(RX4, TX4, 12), rfl, rfl⟩, wm_491, wm_492, wm_493, wm_3, wm_494, ⟨by decide +kernel, by decide +kernel⟩, by decide +kernel, by decide⟩
theorem wm_582 : (Cond.methodLink "SmokeRings" (398 : Nat) ({ cls := "SmokeRings$Play", name := "begin", desc := "(LSmokeRings$Night;)V" } : MethodName)) ∈ gW := mem_t3 102 (by decide +kernel) (by decide +kernel)
theorem wm_585 : (Cond.code ({ cls := "SmokeRings$Play", name := "begin", desc := "(LSmokeRings$Night;)V" } : MethodName) prog_8_method_3_code (3 : Nat) (Option.none : Option FieldType)) ∈ gW := mem_t3 105 (by decide +kernel) (by decide +kernel)
theorem wm_583 : (Cond.instanceMethod ({ cls := "SmokeRings$Play", name := "begin", desc := "(LSmokeRings$Night;)V" } : MethodName)) ∈ gW := mem_t3 103 (by decide +kernel) (by decide +kernel)
theorem wm_584 : (Cond.selects "SmokeRings$Play" ({ cls := "SmokeRings$Play", name := "begin", desc := "(LSmokeRings$Night;)V" } : MethodName) ({ cls := "SmokeRings$Play", name := "begin", desc := "(LSmokeRings$Night;)V" } : MethodName)) ∈ gW := mem_t3 104 (by decide +kernel) (by decide +kernel)
theorem mv_RX11_398 : sr_MV RX11 398 yX6_begin cX6_begin 3 none 1 6 := ⟨⟨(RX6, TX6, 13), rfl, rfl⟩, wm_582, wm_583, wm_584, wm_5, wm_585, ⟨by decide +kernel, by decide +kernel⟩, by decide +kernel, by decide⟩
theorem wm_586 : (Cond.methodLink "SmokeRings" (402 : Nat) ({ cls := "SmokeRings$Play", name := "takeStep", desc := "(LSmokeRings$Night;I)V" } : MethodName)) ∈ gW := mem_t3 106 (by decide +kernel) (by decide +kernel)
theorem wm_589 : (Cond.code ({ cls := "SmokeRings$Play", name := "takeStep", desc := "(LSmokeRings$Night;I)V" } : MethodName) prog_8_method_4_code (9 : Nat) (Option.none : Option FieldType)) ∈ gW := mem_t3 109 (by decide +kernel) (by decide +kernel)
theorem wm_587 : (Cond.instanceMethod ({ cls := "SmokeRings$Play", name := "takeStep", desc := "(LSmokeRings$Night;I)V" } : MethodName)) ∈ gW := mem_t3 107 (by decide +kernel) (by decide +kernel)
theorem wm_588 : (Cond.selects "SmokeRings$Play" ({ cls := "SmokeRings$Play", name := "takeStep", desc := "(LSmokeRings$Night;I)V" } : MethodName) ({ cls := "SmokeRings$Play", name := "takeStep", desc := "(LSmokeRings$Night;I)V" } : MethodName)) ∈ gW := mem_t3 108 (by decide +kernel) (by decide +kernel)
theorem mv_RX11_402 : sr_MV RX11 402 yX6_takeStep cX6_takeStep 9 none 2 6 := ⟨⟨(RX6, TX6, 13), rfl, rfl⟩, wm_586, wm_587, wm_588, wm_5, wm_589, ⟨by decide +kernel, by decide +kernel⟩, by decide +kernel, by decide⟩
theorem wm_619 : (Cond.methodLink "SmokeRings" (406 : Nat) ({ cls := "SmokeRings$Diary", name := "keep", desc := "(ILSmokeRings$Play;)V" } : MethodName)) ∈ gW := mem_t3 139 (by decide +kernel) (by decide +kernel)
theorem wm_622 : (Cond.code ({ cls := "SmokeRings$Diary", name := "keep", desc := "(ILSmokeRings$Play;)V" } : MethodName) prog_3_method_2_code (5 : Nat) (Option.none : Option FieldType)) ∈ gW := mem_t3 142 (by decide +kernel) (by decide +kernel)
theorem wm_620 : (Cond.instanceMethod ({ cls := "SmokeRings$Diary", name := "keep", desc := "(ILSmokeRings$Play;)V" } : MethodName)) ∈ gW := mem_t3 140 (by decide +kernel) (by decide +kernel)
theorem wm_621 : (Cond.selects "SmokeRings$Diary" ({ cls := "SmokeRings$Diary", name := "keep", desc := "(ILSmokeRings$Play;)V" } : MethodName) ({ cls := "SmokeRings$Diary", name := "keep", desc := "(ILSmokeRings$Play;)V" } : MethodName)) ∈ gW := mem_t3 141 (by decide +kernel) (by decide +kernel)
theorem mv_RX11_406 : sr_MV RX11 406 yX1_keep cX1_keep 5 none 2 1 := ⟨⟨(RX1, TX1, 1), rfl, rfl⟩, wm_619, wm_620, wm_621, wm_6, wm_622, ⟨by decide +kernel, by decide +kernel⟩, by decide +kernel, by decide⟩
theorem wm_834 : (Cond.methodLink "SmokeRings$Chances" (47 : Nat) ({ cls := "SmokeRings$Chances", name := "findWindy", desc := "(I)V" } : MethodName)) ∈ gW := mem_t4 114 (by decide +kernel) (by decide +kernel)
theorem wm_837 : (Cond.code ({ cls := "SmokeRings$Chances", name := "findWindy", desc := "(I)V" } : MethodName) prog_2_method_3_code (4 : Nat) (Option.none : Option FieldType)) ∈ gW := mem_t4 117 (by decide +kernel) (by decide +kernel)
theorem wm_836 : (Cond.instanceMethod ({ cls := "SmokeRings$Chances", name := "findWindy", desc := "(I)V" } : MethodName)) ∈ gW := mem_t4 116 (by decide +kernel) (by decide +kernel)
theorem pv_X0_findWindy : Cond.selects yX0_findWindy.cls yX0_findWindy yX0_findWindy ∈ gW := mem_prv (n := 10) (by decide +kernel) (by decide +kernel)
theorem mv_RX0_47 : sr_MV RX0 47 yX0_findWindy cX0_findWindy 4 none 1 0 := ⟨⟨(RX0, TX0, 10), rfl, rfl⟩, wm_834, wm_836, pv_X0_findWindy, wm_14, wm_837, ⟨by decide +kernel, by decide +kernel⟩, by decide +kernel, by decide⟩
theorem wm_839 : (Cond.methodLink "SmokeRings$Chances" (51 : Nat) ({ cls := "java/util/Arrays", name := "fill", desc := "([JJ)V" } : MethodName)) ∈ gW := mem_t4 119 (by decide +kernel) (by decide +kernel)
theorem wm_841 : (Cond.code ({ cls := "java/util/Arrays", name := "fill", desc := "([JJ)V" } : MethodName) prog_19_method_101_code (5 : Nat) (Option.none : Option FieldType)) ∈ gW := mem_t4 121 (by decide +kernel) (by decide +kernel)
theorem wm_4 : (Cond.initialized "java/util/Arrays") ∈ gW := mem_t1 4 (by decide +kernel) (by decide +kernel)
theorem wm_840 : (Cond.static ({ cls := "java/util/Arrays", name := "fill", desc := "([JJ)V" } : MethodName)) ∈ gW := mem_t4 120 (by decide +kernel) (by decide +kernel)
theorem ms_RX0_51 : sr_MS RX0 51 yJ7_fill_d0a16 cJ7_fill_d0a16 5 none 2 := ⟨wm_839, wm_840, wm_4, wm_841, ⟨by decide +kernel, by decide +kernel⟩, by decide +kernel, by decide⟩
theorem wm_842 : (Cond.methodLink "SmokeRings$Chances" (57 : Nat) ({ cls := "SmokeRings$Night", name := "becomes", desc := "(LSmokeRings$Night;)V" } : MethodName)) ∈ gW := mem_t4 122 (by decide +kernel) (by decide +kernel)
theorem wm_680 : (Cond.code ({ cls := "SmokeRings$Night", name := "becomes", desc := "(LSmokeRings$Night;)V" } : MethodName) prog_6_method_2_code (2 : Nat) (Option.none : Option FieldType)) ∈ gW := mem_t3 200 (by decide +kernel) (by decide +kernel)
theorem wm_678 : (Cond.instanceMethod ({ cls := "SmokeRings$Night", name := "becomes", desc := "(LSmokeRings$Night;)V" } : MethodName)) ∈ gW := mem_t3 198 (by decide +kernel) (by decide +kernel)
theorem wm_679 : (Cond.selects "SmokeRings$Night" ({ cls := "SmokeRings$Night", name := "becomes", desc := "(LSmokeRings$Night;)V" } : MethodName) ({ cls := "SmokeRings$Night", name := "becomes", desc := "(LSmokeRings$Night;)V" } : MethodName)) ∈ gW := mem_t3 199 (by decide +kernel) (by decide +kernel)
theorem mv_RX0_57 : sr_MV RX0 57 yX4_becomes cX4_becomes 2 none 1 4 := ⟨⟨(RX4, TX4, 12), rfl, rfl⟩, wm_842, wm_678, wm_679, wm_3, wm_680, ⟨by decide +kernel, by decide +kernel⟩, by decide +kernel, by decide⟩
theorem wm_843 : (Cond.methodLink "SmokeRings$Chances" (63 : Nat) ({ cls := "java/lang/Integer", name := "bitCount", desc := "(I)I" } : MethodName)) ∈ gW := mem_t4 123 (by decide +kernel) (by decide +kernel)
theorem ms_RX0_63 : sr_MS RX0 63 yJ6_bitCount_0f7a4 cJ6_bitCount_0f7a4 1 (some .int) 1 := ⟨wm_843, wm_660, wm_16, wm_661, ⟨by decide +kernel, by decide +kernel⟩, by decide +kernel, by decide⟩
theorem wm_844 : (Cond.methodLink "SmokeRings$Chances" (69 : Nat) ({ cls := "SmokeRings$Chances", name := "power", desc := "(JI)J" } : MethodName)) ∈ gW := mem_t4 124 (by decide +kernel) (by decide +kernel)
theorem wm_846 : (Cond.code ({ cls := "SmokeRings$Chances", name := "power", desc := "(JI)J" } : MethodName) prog_2_method_4_code (6 : Nat) (Option.some FieldType.long)) ∈ gW := mem_t4 126 (by decide +kernel) (by decide +kernel)
theorem wm_845 : (Cond.static ({ cls := "SmokeRings$Chances", name := "power", desc := "(JI)J" } : MethodName)) ∈ gW := mem_t4 125 (by decide +kernel) (by decide +kernel)
theorem ms_RX0_69 : sr_MS RX0 69 yX0_power cX0_power 6 (some .long) 2 := ⟨wm_844, wm_845, wm_14, wm_846, ⟨by decide +kernel, by decide +kernel⟩, by decide +kernel, by decide⟩
theorem wm_847 : (Cond.methodLink "SmokeRings$Chances" (73 : Nat) ({ cls := "SmokeRings$Chances", name := "weighCalms", desc := "(IJ)V" } : MethodName)) ∈ gW := mem_t4 127 (by decide +kernel) (by decide +kernel)
theorem wm_850 : (Cond.code ({ cls := "SmokeRings$Chances", name := "weighCalms", desc := "(IJ)V" } : MethodName) prog_2_method_5_code (6 : Nat) (Option.none : Option FieldType)) ∈ gW := mem_t4 130 (by decide +kernel) (by decide +kernel)
theorem wm_849 : (Cond.instanceMethod ({ cls := "SmokeRings$Chances", name := "weighCalms", desc := "(IJ)V" } : MethodName)) ∈ gW := mem_t4 129 (by decide +kernel) (by decide +kernel)
theorem pv_X0_weighCalms : Cond.selects yX0_weighCalms.cls yX0_weighCalms yX0_weighCalms ∈ gW := mem_prv (n := 10) (by decide +kernel) (by decide +kernel)
theorem mv_RX0_73 : sr_MV RX0 73 yX0_weighCalms cX0_weighCalms 6 none 2 0 := ⟨⟨(RX0, TX0, 10), rfl, rfl⟩, wm_847, wm_849, pv_X0_weighCalms, wm_14, wm_850, ⟨by decide +kernel, by decide +kernel⟩, by decide +kernel, by decide⟩
theorem wm_838 : (Cond.methodLink "SmokeRings$Chances" (83 : Nat) ({ cls := "java/lang/Math", name := "min", desc := "(II)I" } : MethodName)) ∈ gW := mem_t4 118 (by decide +kernel) (by decide +kernel)
theorem ms_RX0_83 : sr_MS RX0 83 yJ9_min_7cf53 cJ9_min_7cf53 2 (some .int) 2 := ⟨wm_838, wm_489, wm_9, wm_490, ⟨by decide +kernel, by decide +kernel⟩, by decide +kernel, by decide⟩
theorem wm_851 : (Cond.methodLink "SmokeRings$Chances" (92 : Nat) ({ cls := "SmokeRings$Play", name := "playAll", desc := "(LSmokeRings$Night;)V" } : MethodName)) ∈ gW := mem_t4 131 (by decide +kernel) (by decide +kernel)
theorem wm_687 : (Cond.code ({ cls := "SmokeRings$Play", name := "playAll", desc := "(LSmokeRings$Night;)V" } : MethodName) prog_8_method_2_code (3 : Nat) (Option.none : Option FieldType)) ∈ gW := mem_t3 207 (by decide +kernel) (by decide +kernel)
theorem wm_685 : (Cond.instanceMethod ({ cls := "SmokeRings$Play", name := "playAll", desc := "(LSmokeRings$Night;)V" } : MethodName)) ∈ gW := mem_t3 205 (by decide +kernel) (by decide +kernel)
theorem wm_686 : (Cond.selects "SmokeRings$Play" ({ cls := "SmokeRings$Play", name := "playAll", desc := "(LSmokeRings$Night;)V" } : MethodName) ({ cls := "SmokeRings$Play", name := "playAll", desc := "(LSmokeRings$Night;)V" } : MethodName)) ∈ gW := mem_t3 206 (by decide +kernel) (by decide +kernel)
theorem mv_RX0_92 : sr_MV RX0 92 yX6_playAll cX6_playAll 3 none 1 6 := ⟨⟨(RX6, TX6, 13), rfl, rfl⟩, wm_851, wm_685, wm_686, wm_5, wm_687, ⟨by decide +kernel, by decide +kernel⟩, by decide +kernel, by decide⟩
theorem wm_856 : (Cond.methodLink "SmokeRings$Chances" (103 : Nat) ({ cls := "SmokeRings$Chances", name := "weightOf", desc := "(II)J" } : MethodName)) ∈ gW := mem_t4 136 (by decide +kernel) (by decide +kernel)
theorem wm_859 : (Cond.code ({ cls := "SmokeRings$Chances", name := "weightOf", desc := "(II)J" } : MethodName) prog_2_method_6_code (4 : Nat) (Option.some FieldType.long)) ∈ gW := mem_t4 139 (by decide +kernel) (by decide +kernel)
theorem wm_858 : (Cond.instanceMethod ({ cls := "SmokeRings$Chances", name := "weightOf", desc := "(II)J" } : MethodName)) ∈ gW := mem_t4 138 (by decide +kernel) (by decide +kernel)
theorem pv_X0_weightOf : Cond.selects yX0_weightOf.cls yX0_weightOf yX0_weightOf ∈ gW := mem_prv (n := 10) (by decide +kernel) (by decide +kernel)
theorem mv_RX0_103 : sr_MV RX0 103 yX0_weightOf cX0_weightOf 4 (some .long) 2 0 := ⟨⟨(RX0, TX0, 10), rfl, rfl⟩, wm_856, wm_858, pv_X0_weightOf, wm_14, wm_859, ⟨by decide +kernel, by decide +kernel⟩, by decide +kernel, by decide⟩
theorem wm_860 : (Cond.methodLink "SmokeRings$Chances" (107 : Nat) ({ cls := "SmokeRings$Chances", name := "halvings", desc := "(J)I" } : MethodName)) ∈ gW := mem_t4 140 (by decide +kernel) (by decide +kernel)
theorem wm_863 : (Cond.code ({ cls := "SmokeRings$Chances", name := "halvings", desc := "(J)I" } : MethodName) prog_2_method_7_code (4 : Nat) (Option.some FieldType.int)) ∈ gW := mem_t4 143 (by decide +kernel) (by decide +kernel)
theorem wm_862 : (Cond.instanceMethod ({ cls := "SmokeRings$Chances", name := "halvings", desc := "(J)I" } : MethodName)) ∈ gW := mem_t4 142 (by decide +kernel) (by decide +kernel)
theorem pv_X0_halvings : Cond.selects yX0_halvings.cls yX0_halvings yX0_halvings ∈ gW := mem_prv (n := 10) (by decide +kernel) (by decide +kernel)
theorem mv_RX0_107 : sr_MV RX0 107 yX0_halvings cX0_halvings 4 (some .int) 1 0 := ⟨⟨(RX0, TX0, 10), rfl, rfl⟩, wm_860, wm_862, pv_X0_halvings, wm_14, wm_863, ⟨by decide +kernel, by decide +kernel⟩, by decide +kernel, by decide⟩
theorem wm_876 : (Cond.methodLink "SmokeRings$Chances" (116 : Nat) ({ cls := "SmokeRings$Chances", name := "lot", desc := "(I)I" } : MethodName)) ∈ gW := mem_t4 156 (by decide +kernel) (by decide +kernel)
theorem wm_879 : (Cond.code ({ cls := "SmokeRings$Chances", name := "lot", desc := "(I)I" } : MethodName) prog_2_method_11_code (2 : Nat) (Option.some FieldType.int)) ∈ gW := mem_t4 159 (by decide +kernel) (by decide +kernel)
theorem wm_878 : (Cond.instanceMethod ({ cls := "SmokeRings$Chances", name := "lot", desc := "(I)I" } : MethodName)) ∈ gW := mem_t4 158 (by decide +kernel) (by decide +kernel)
theorem pv_X0_lot : Cond.selects yX0_lot.cls yX0_lot yX0_lot ∈ gW := mem_prv (n := 10) (by decide +kernel) (by decide +kernel)
theorem mv_RX0_116 : sr_MV RX0 116 yX0_lot cX0_lot 2 (some .int) 1 0 := ⟨⟨(RX0, TX0, 10), rfl, rfl⟩, wm_876, wm_878, pv_X0_lot, wm_14, wm_879, ⟨by decide +kernel, by decide +kernel⟩, by decide +kernel, by decide⟩
theorem wm_881 : (Cond.methodLink "SmokeRings$Chances" (119 : Nat) ({ cls := "SmokeRings$Night", name := "addRing", desc := "(IIIII)V" } : MethodName)) ∈ gW := mem_t4 161 (by decide +kernel) (by decide +kernel)
theorem mv_RX0_119 : sr_MV RX0 119 yX4_addRing cX4_addRing 6 none 5 4 := ⟨⟨(RX4, TX4, 12), rfl, rfl⟩, wm_881, wm_539, wm_540, wm_3, wm_541, ⟨by decide +kernel, by decide +kernel⟩, by decide +kernel, by decide⟩
theorem wm_882 : (Cond.methodLink "SmokeRings$Chances" (126 : Nat) ({ cls := "SmokeRings$Play", name := "brokenRings", desc := "(LSmokeRings$Night;)I" } : MethodName)) ∈ gW := mem_t4 162 (by decide +kernel) (by decide +kernel)
theorem wm_885 : (Cond.code ({ cls := "SmokeRings$Play", name := "brokenRings", desc := "(LSmokeRings$Night;)I" } : MethodName) prog_8_method_13_code (4 : Nat) (Option.some FieldType.int)) ∈ gW := mem_t4 165 (by decide +kernel) (by decide +kernel)
theorem wm_883 : (Cond.instanceMethod ({ cls := "SmokeRings$Play", name := "brokenRings", desc := "(LSmokeRings$Night;)I" } : MethodName)) ∈ gW := mem_t4 163 (by decide +kernel) (by decide +kernel)
theorem wm_884 : (Cond.selects "SmokeRings$Play" ({ cls := "SmokeRings$Play", name := "brokenRings", desc := "(LSmokeRings$Night;)I" } : MethodName) ({ cls := "SmokeRings$Play", name := "brokenRings", desc := "(LSmokeRings$Night;)I" } : MethodName)) ∈ gW := mem_t4 164 (by decide +kernel) (by decide +kernel)
theorem mv_RX0_126 : sr_MV RX0 126 yX6_brokenRings cX6_brokenRings 4 (some .int) 1 6 := ⟨⟨(RX6, TX6, 13), rfl, rfl⟩, wm_882, wm_883, wm_884, wm_5, wm_885, ⟨by decide +kernel, by decide +kernel⟩, by decide +kernel, by decide⟩
theorem wm_771 : (Cond.methodLink "SmokeRings$Guesses" (44 : Nat) ({ cls := "SmokeRings$Play", name := "playAll", desc := "(LSmokeRings$Night;)V" } : MethodName)) ∈ gW := mem_t4 51 (by decide +kernel) (by decide +kernel)
theorem mv_RX3_44 : sr_MV RX3 44 yX6_playAll cX6_playAll 3 none 1 6 := ⟨⟨(RX6, TX6, 13), rfl, rfl⟩, wm_771, wm_685, wm_686, wm_5, wm_687, ⟨by decide +kernel, by decide +kernel⟩, by decide +kernel, by decide⟩
theorem wm_772 : (Cond.methodLink "SmokeRings$Guesses" (50 : Nat) ({ cls := "SmokeRings$Sights", name := "allSo", desc := "(LSmokeRings$Night;LSmokeRings$Play;)Z" } : MethodName)) ∈ gW := mem_t4 52 (by decide +kernel) (by decide +kernel)
theorem wm_775 : (Cond.code ({ cls := "SmokeRings$Sights", name := "allSo", desc := "(LSmokeRings$Night;LSmokeRings$Play;)Z" } : MethodName) prog_10_method_3_code (4 : Nat) (Option.some FieldType.boolean)) ∈ gW := mem_t4 55 (by decide +kernel) (by decide +kernel)
theorem wm_773 : (Cond.instanceMethod ({ cls := "SmokeRings$Sights", name := "allSo", desc := "(LSmokeRings$Night;LSmokeRings$Play;)Z" } : MethodName)) ∈ gW := mem_t4 53 (by decide +kernel) (by decide +kernel)
theorem wm_774 : (Cond.selects "SmokeRings$Sights" ({ cls := "SmokeRings$Sights", name := "allSo", desc := "(LSmokeRings$Night;LSmokeRings$Play;)Z" } : MethodName) ({ cls := "SmokeRings$Sights", name := "allSo", desc := "(LSmokeRings$Night;LSmokeRings$Play;)Z" } : MethodName)) ∈ gW := mem_t4 54 (by decide +kernel) (by decide +kernel)
theorem mv_RX3_50 : sr_MV RX3 50 yX8_allSo cX8_allSo 4 (some .boolean) 2 8 := ⟨⟨(RX8, TX8, 3), rfl, rfl⟩, wm_772, wm_773, wm_774, wm_7, wm_775, ⟨by decide +kernel, by decide +kernel⟩, by decide +kernel, by decide⟩
theorem wm_766 : (Cond.methodLink "SmokeRings$Guesses" (54 : Nat) ({ cls := "SmokeRings$Night", name := "becomes", desc := "(LSmokeRings$Night;)V" } : MethodName)) ∈ gW := mem_t4 46 (by decide +kernel) (by decide +kernel)
theorem mv_RX3_54 : sr_MV RX3 54 yX4_becomes cX4_becomes 2 none 1 4 := ⟨⟨(RX4, TX4, 12), rfl, rfl⟩, wm_766, wm_678, wm_679, wm_3, wm_680, ⟨by decide +kernel, by decide +kernel⟩, by decide +kernel, by decide⟩
theorem wm_767 : (Cond.methodLink "SmokeRings$Guesses" (65 : Nat) ({ cls := "SmokeRings$Guesses", name := "comesOut", desc := "()Z" } : MethodName)) ∈ gW := mem_t4 47 (by decide +kernel) (by decide +kernel)
theorem wm_770 : (Cond.code ({ cls := "SmokeRings$Guesses", name := "comesOut", desc := "()Z" } : MethodName) prog_5_method_2_code (1 : Nat) (Option.some FieldType.boolean)) ∈ gW := mem_t4 50 (by decide +kernel) (by decide +kernel)
theorem wm_769 : (Cond.instanceMethod ({ cls := "SmokeRings$Guesses", name := "comesOut", desc := "()Z" } : MethodName)) ∈ gW := mem_t4 49 (by decide +kernel) (by decide +kernel)
theorem pv_X3_comesOut : Cond.selects yX3_comesOut.cls yX3_comesOut yX3_comesOut ∈ gW := mem_prv (n := 7) (by decide +kernel) (by decide +kernel)
theorem mv_RX3_65 : sr_MV RX3 65 yX3_comesOut cX3_comesOut 1 (some .boolean) 0 3 := ⟨⟨(RX3, TX3, 7), rfl, rfl⟩, wm_767, wm_769, pv_X3_comesOut, wm_13, wm_770, ⟨by decide +kernel, by decide +kernel⟩, by decide +kernel, by decide⟩
theorem wm_792 : (Cond.methodLink "SmokeRings$Guesses" (77 : Nat) ({ cls := "java/lang/Long", name := "bitCount", desc := "(J)I" } : MethodName)) ∈ gW := mem_t4 72 (by decide +kernel) (by decide +kernel)
theorem wm_794 : (Cond.code ({ cls := "java/lang/Long", name := "bitCount", desc := "(J)I" } : MethodName) prog_16_method_50_code (2 : Nat) (Option.some FieldType.int)) ∈ gW := mem_t4 74 (by decide +kernel) (by decide +kernel)
theorem wm_18 : (Cond.initialized "java/lang/Long") ∈ gW := mem_t1 18 (by decide +kernel) (by decide +kernel)
theorem wm_793 : (Cond.static ({ cls := "java/lang/Long", name := "bitCount", desc := "(J)I" } : MethodName)) ∈ gW := mem_t4 73 (by decide +kernel) (by decide +kernel)
theorem ms_RX3_77 : sr_MS RX3 77 yJ13_bitCount_95d88 cJ13_bitCount_95d88 2 (some .int) 1 := ⟨wm_792, wm_793, wm_18, wm_794, ⟨by decide +kernel, by decide +kernel⟩, by decide +kernel, by decide⟩
theorem wm_814 : (Cond.methodLink "SmokeRings$Guesses" (86 : Nat) ({ cls := "java/util/Arrays", name := "fill", desc := "([II)V" } : MethodName)) ∈ gW := mem_t4 94 (by decide +kernel) (by decide +kernel)
theorem wm_61 : (Cond.code ({ cls := "java/util/Arrays", name := "fill", desc := "([II)V" } : MethodName) prog_19_method_103_code (4 : Nat) (Option.none : Option FieldType)) ∈ gW := mem_t1 61 (by decide +kernel) (by decide +kernel)
theorem wm_60 : (Cond.static ({ cls := "java/util/Arrays", name := "fill", desc := "([II)V" } : MethodName)) ∈ gW := mem_t1 60 (by decide +kernel) (by decide +kernel)
theorem ms_RX3_86 : sr_MS RX3 86 yJ7_fill_53178 cJ7_fill_53178 4 none 2 := ⟨wm_814, wm_60, wm_4, wm_61, ⟨by decide +kernel, by decide +kernel⟩, by decide +kernel, by decide⟩
theorem wm_815 : (Cond.methodLink "SmokeRings$Guesses" (92 : Nat) ({ cls := "SmokeRings$Guesses", name := "tallyOutcomes", desc := "()V" } : MethodName)) ∈ gW := mem_t4 95 (by decide +kernel) (by decide +kernel)
theorem wm_818 : (Cond.code ({ cls := "SmokeRings$Guesses", name := "tallyOutcomes", desc := "()V" } : MethodName) prog_5_method_8_code (3 : Nat) (Option.none : Option FieldType)) ∈ gW := mem_t4 98 (by decide +kernel) (by decide +kernel)
theorem wm_817 : (Cond.instanceMethod ({ cls := "SmokeRings$Guesses", name := "tallyOutcomes", desc := "()V" } : MethodName)) ∈ gW := mem_t4 97 (by decide +kernel) (by decide +kernel)
theorem pv_X3_tallyOutcomes : Cond.selects yX3_tallyOutcomes.cls yX3_tallyOutcomes yX3_tallyOutcomes ∈ gW := mem_prv (n := 7) (by decide +kernel) (by decide +kernel)
theorem mv_RX3_92 : sr_MV RX3 92 yX3_tallyOutcomes cX3_tallyOutcomes 3 none 0 3 := ⟨⟨(RX3, TX3, 7), rfl, rfl⟩, wm_815, wm_817, pv_X3_tallyOutcomes, wm_13, wm_818, ⟨by decide +kernel, by decide +kernel⟩, by decide +kernel, by decide⟩
theorem wm_820 : (Cond.methodLink "SmokeRings$Guesses" (98 : Nat) ({ cls := "SmokeRings$Guesses", name := "greatestTally", desc := "(I)I" } : MethodName)) ∈ gW := mem_t4 100 (by decide +kernel) (by decide +kernel)
theorem wm_823 : (Cond.code ({ cls := "SmokeRings$Guesses", name := "greatestTally", desc := "(I)I" } : MethodName) prog_5_method_9_code (4 : Nat) (Option.some FieldType.int)) ∈ gW := mem_t4 103 (by decide +kernel) (by decide +kernel)
theorem wm_822 : (Cond.instanceMethod ({ cls := "SmokeRings$Guesses", name := "greatestTally", desc := "(I)I" } : MethodName)) ∈ gW := mem_t4 102 (by decide +kernel) (by decide +kernel)
theorem pv_X3_greatestTally : Cond.selects yX3_greatestTally.cls yX3_greatestTally yX3_greatestTally ∈ gW := mem_prv (n := 7) (by decide +kernel) (by decide +kernel)
theorem mv_RX3_98 : sr_MV RX3 98 yX3_greatestTally cX3_greatestTally 4 (some .int) 1 3 := ⟨⟨(RX3, TX3, 7), rfl, rfl⟩, wm_820, wm_822, pv_X3_greatestTally, wm_13, wm_823, ⟨by decide +kernel, by decide +kernel⟩, by decide +kernel, by decide⟩
theorem wm_819 : (Cond.methodLink "SmokeRings$Guesses" (102 : Nat) ({ cls := "SmokeRings$Play", name := "outcome", desc := "(I)I" } : MethodName)) ∈ gW := mem_t4 99 (by decide +kernel) (by decide +kernel)
theorem wm_779 : (Cond.code ({ cls := "SmokeRings$Play", name := "outcome", desc := "(I)I" } : MethodName) prog_8_method_14_code (2 : Nat) (Option.some FieldType.int)) ∈ gW := mem_t4 59 (by decide +kernel) (by decide +kernel)
theorem wm_777 : (Cond.instanceMethod ({ cls := "SmokeRings$Play", name := "outcome", desc := "(I)I" } : MethodName)) ∈ gW := mem_t4 57 (by decide +kernel) (by decide +kernel)
theorem wm_778 : (Cond.selects "SmokeRings$Play" ({ cls := "SmokeRings$Play", name := "outcome", desc := "(I)I" } : MethodName) ({ cls := "SmokeRings$Play", name := "outcome", desc := "(I)I" } : MethodName)) ∈ gW := mem_t4 58 (by decide +kernel) (by decide +kernel)
theorem mv_RX3_102 : sr_MV RX3 102 yX6_outcome cX6_outcome 2 (some .int) 1 6 := ⟨⟨(RX6, TX6, 13), rfl, rfl⟩, wm_819, wm_777, wm_778, wm_5, wm_779, ⟨by decide +kernel, by decide +kernel⟩, by decide +kernel, by decide⟩
theorem wm_824 : (Cond.methodLink "SmokeRings$Guesses" (105 : Nat) ({ cls := "java/lang/Math", name := "max", desc := "(II)I" } : MethodName)) ∈ gW := mem_t4 104 (by decide +kernel) (by decide +kernel)
theorem wm_239 : (Cond.code ({ cls := "java/lang/Math", name := "max", desc := "(II)I" } : MethodName) prog_17_method_65_code (2 : Nat) (Option.some FieldType.int)) ∈ gW := mem_t1 239 (by decide +kernel) (by decide +kernel)
theorem wm_238 : (Cond.static ({ cls := "java/lang/Math", name := "max", desc := "(II)I" } : MethodName)) ∈ gW := mem_t1 238 (by decide +kernel) (by decide +kernel)
theorem ms_RX3_105 : sr_MS RX3 105 yJ9_max_7cf53 cJ9_max_7cf53 2 (some .int) 2 := ⟨wm_824, wm_238, wm_9, wm_239, ⟨by decide +kernel, by decide +kernel⟩, by decide +kernel, by decide⟩
theorem wm_59 : (Cond.methodLink "SmokeRings$Night" (49 : Nat) ({ cls := "java/util/Arrays", name := "fill", desc := "([II)V" } : MethodName)) ∈ gW := mem_t1 59 (by decide +kernel) (by decide +kernel)
theorem ms_RX4_49 : sr_MS RX4 49 yJ7_fill_53178 cJ7_fill_53178 4 none 2 := ⟨wm_59, wm_60, wm_4, wm_61, ⟨by decide +kernel, by decide +kernel⟩, by decide +kernel, by decide⟩
theorem wm_481 : (Cond.methodLink "SmokeRings$Night" (61 : Nat) ({ cls := "SmokeRings$Night", name := "thingsFault", desc := "(LSmokeRings$Text;)I" } : MethodName)) ∈ gW := mem_t3 1 (by decide +kernel) (by decide +kernel)
theorem wm_483 : (Cond.code ({ cls := "SmokeRings$Night", name := "thingsFault", desc := "(LSmokeRings$Text;)I" } : MethodName) prog_6_method_7_code (2 : Nat) (Option.some FieldType.int)) ∈ gW := mem_t3 3 (by decide +kernel) (by decide +kernel)
theorem wm_482 : (Cond.static ({ cls := "SmokeRings$Night", name := "thingsFault", desc := "(LSmokeRings$Text;)I" } : MethodName)) ∈ gW := mem_t3 2 (by decide +kernel) (by decide +kernel)
theorem ms_RX4_61 : sr_MS RX4 61 yX4_thingsFault cX4_thingsFault 2 (some .int) 1 := ⟨wm_481, wm_482, wm_3, wm_483, ⟨by decide +kernel, by decide +kernel⟩, by decide +kernel, by decide⟩
theorem wm_488 : (Cond.methodLink "SmokeRings$Night" (70 : Nat) ({ cls := "java/lang/Math", name := "min", desc := "(II)I" } : MethodName)) ∈ gW := mem_t3 8 (by decide +kernel) (by decide +kernel)
theorem ms_RX4_70 : sr_MS RX4 70 yJ9_min_7cf53 cJ9_min_7cf53 2 (some .int) 2 := ⟨wm_488, wm_489, wm_9, wm_490, ⟨by decide +kernel, by decide +kernel⟩, by decide +kernel, by decide⟩
theorem wm_484 : (Cond.methodLink "SmokeRings$Night" (76 : Nat) ({ cls := "SmokeRings$Text", name := "sign", desc := "(I)I" } : MethodName)) ∈ gW := mem_t3 4 (by decide +kernel) (by decide +kernel)
theorem wm_460 : (Cond.code ({ cls := "SmokeRings$Text", name := "sign", desc := "(I)I" } : MethodName) prog_11_method_3_code (2 : Nat) (Option.some FieldType.int)) ∈ gW := mem_t2 220 (by decide +kernel) (by decide +kernel)
theorem wm_458 : (Cond.instanceMethod ({ cls := "SmokeRings$Text", name := "sign", desc := "(I)I" } : MethodName)) ∈ gW := mem_t2 218 (by decide +kernel) (by decide +kernel)
theorem wm_459 : (Cond.selects "SmokeRings$Text" ({ cls := "SmokeRings$Text", name := "sign", desc := "(I)I" } : MethodName) ({ cls := "SmokeRings$Text", name := "sign", desc := "(I)I" } : MethodName)) ∈ gW := mem_t2 219 (by decide +kernel) (by decide +kernel)
theorem mv_RX4_76 : sr_MV RX4 76 yX9_sign cX9_sign 2 (some .int) 1 9 := ⟨⟨(RX9, TX9, 2), rfl, rfl⟩, wm_484, wm_458, wm_459, wm_8, wm_460, ⟨by decide +kernel, by decide +kernel⟩, by decide +kernel, by decide⟩
theorem wm_485 : (Cond.methodLink "SmokeRings$Night" (80 : Nat) ({ cls := "SmokeRings$Night", name := "fitsThing", desc := "(II)Z" } : MethodName)) ∈ gW := mem_t3 5 (by decide +kernel) (by decide +kernel)
theorem wm_487 : (Cond.code ({ cls := "SmokeRings$Night", name := "fitsThing", desc := "(II)Z" } : MethodName) prog_6_method_8_code (2 : Nat) (Option.some FieldType.boolean)) ∈ gW := mem_t3 7 (by decide +kernel) (by decide +kernel)
theorem wm_486 : (Cond.static ({ cls := "SmokeRings$Night", name := "fitsThing", desc := "(II)Z" } : MethodName)) ∈ gW := mem_t3 6 (by decide +kernel) (by decide +kernel)
theorem ms_RX4_80 : sr_MS RX4 80 yX4_fitsThing cX4_fitsThing 2 (some .boolean) 2 := ⟨wm_485, wm_486, wm_3, wm_487, ⟨by decide +kernel, by decide +kernel⟩, by decide +kernel, by decide⟩
theorem wm_495 : (Cond.methodLink "SmokeRings$Night" (84 : Nat) ({ cls := "SmokeRings$Night", name := "windOf", desc := "(I)I" } : MethodName)) ∈ gW := mem_t3 15 (by decide +kernel) (by decide +kernel)
theorem wm_497 : (Cond.code ({ cls := "SmokeRings$Night", name := "windOf", desc := "(I)I" } : MethodName) prog_6_method_10_code (1 : Nat) (Option.some FieldType.int)) ∈ gW := mem_t3 17 (by decide +kernel) (by decide +kernel)
theorem wm_496 : (Cond.static ({ cls := "SmokeRings$Night", name := "windOf", desc := "(I)I" } : MethodName)) ∈ gW := mem_t3 16 (by decide +kernel) (by decide +kernel)
theorem ms_RX4_84 : sr_MS RX4 84 yX4_windOf cX4_windOf 1 (some .int) 1 := ⟨wm_495, wm_496, wm_3, wm_497, ⟨by decide +kernel, by decide +kernel⟩, by decide +kernel, by decide⟩
theorem wm_677 : (Cond.methodLink "SmokeRings$Plans" (49 : Nat) ({ cls := "SmokeRings$Night", name := "becomes", desc := "(LSmokeRings$Night;)V" } : MethodName)) ∈ gW := mem_t3 197 (by decide +kernel) (by decide +kernel)
theorem mv_RX5_49 : sr_MV RX5 49 yX4_becomes cX4_becomes 2 none 1 4 := ⟨⟨(RX4, TX4, 12), rfl, rfl⟩, wm_677, wm_678, wm_679, wm_3, wm_680, ⟨by decide +kernel, by decide +kernel⟩, by decide +kernel, by decide⟩
theorem wm_684 : (Cond.methodLink "SmokeRings$Plans" (59 : Nat) ({ cls := "SmokeRings$Play", name := "playAll", desc := "(LSmokeRings$Night;)V" } : MethodName)) ∈ gW := mem_t3 204 (by decide +kernel) (by decide +kernel)
theorem mv_RX5_59 : sr_MV RX5 59 yX6_playAll cX6_playAll 3 none 1 6 := ⟨⟨(RX6, TX6, 13), rfl, rfl⟩, wm_684, wm_685, wm_686, wm_5, wm_687, ⟨by decide +kernel, by decide +kernel⟩, by decide +kernel, by decide⟩
theorem wm_706 : (Cond.methodLink "SmokeRings$Plans" (84 : Nat) ({ cls := "SmokeRings$Valley", name := "isOpen", desc := "(I)Z" } : MethodName)) ∈ gW := mem_t3 226 (by decide +kernel) (by decide +kernel)
theorem mv_RX5_84 : sr_MV RX5 84 yX10_isOpen cX10_isOpen 2 (some .boolean) 1 10 := ⟨⟨(RX10, TX10, 3), rfl, rfl⟩, wm_706, wm_474, wm_475, wm_2, wm_476, ⟨by decide +kernel, by decide +kernel⟩, by decide +kernel, by decide⟩
theorem wm_707 : (Cond.methodLink "SmokeRings$Plans" (88 : Nat) ({ cls := "SmokeRings$Plans", name := "binds", desc := "(I)Z" } : MethodName)) ∈ gW := mem_t3 227 (by decide +kernel) (by decide +kernel)
theorem wm_710 : (Cond.code ({ cls := "SmokeRings$Plans", name := "binds", desc := "(I)Z" } : MethodName) prog_7_method_5_code (2 : Nat) (Option.some FieldType.boolean)) ∈ gW := mem_t3 230 (by decide +kernel) (by decide +kernel)
theorem wm_709 : (Cond.instanceMethod ({ cls := "SmokeRings$Plans", name := "binds", desc := "(I)Z" } : MethodName)) ∈ gW := mem_t3 229 (by decide +kernel) (by decide +kernel)
theorem pv_X5_binds : Cond.selects yX5_binds.cls yX5_binds yX5_binds ∈ gW := mem_prv (n := 10) (by decide +kernel) (by decide +kernel)
theorem mv_RX5_88 : sr_MV RX5 88 yX5_binds cX5_binds 2 (some .boolean) 1 5 := ⟨⟨(RX5, TX5, 10), rfl, rfl⟩, wm_707, wm_709, pv_X5_binds, wm_11, wm_710, ⟨by decide +kernel, by decide +kernel⟩, by decide +kernel, by decide⟩
theorem wm_719 : (Cond.methodLink "SmokeRings$Plans" (91 : Nat) ({ cls := "SmokeRings$Few", name := "become", desc := "(III)V" } : MethodName)) ∈ gW := mem_t3 239 (by decide +kernel) (by decide +kernel)
theorem wm_722 : (Cond.code ({ cls := "SmokeRings$Few", name := "become", desc := "(III)V" } : MethodName) prog_4_method_2_code (4 : Nat) (Option.none : Option FieldType)) ∈ gW := mem_t4 2 (by decide +kernel) (by decide +kernel)
theorem wm_720 : (Cond.instanceMethod ({ cls := "SmokeRings$Few", name := "become", desc := "(III)V" } : MethodName)) ∈ gW := mem_t4 0 (by decide +kernel) (by decide +kernel)
theorem wm_721 : (Cond.selects "SmokeRings$Few" ({ cls := "SmokeRings$Few", name := "become", desc := "(III)V" } : MethodName) ({ cls := "SmokeRings$Few", name := "become", desc := "(III)V" } : MethodName)) ∈ gW := mem_t4 1 (by decide +kernel) (by decide +kernel)
theorem mv_RX5_91 : sr_MV RX5 91 yX2_become cX2_become 4 none 3 2 := ⟨⟨(RX2, TX2, 3), rfl, rfl⟩, wm_719, wm_720, wm_721, wm_12, wm_722, ⟨by decide +kernel, by decide +kernel⟩, by decide +kernel, by decide⟩
theorem wm_743 : (Cond.methodLink "SmokeRings$Plans" (104 : Nat) ({ cls := "SmokeRings$Play", name := "wedBits", desc := "(LSmokeRings$Night;I)I" } : MethodName)) ∈ gW := mem_t4 23 (by decide +kernel) (by decide +kernel)
theorem mv_RX5_104 : sr_MV RX5 104 yX6_wedBits cX6_wedBits 5 (some .int) 2 6 := ⟨⟨(RX6, TX6, 13), rfl, rfl⟩, wm_743, wm_636, wm_637, wm_5, wm_638, ⟨by decide +kernel, by decide +kernel⟩, by decide +kernel, by decide⟩
theorem wm_744 : (Cond.methodLink "SmokeRings$Plans" (108 : Nat) ({ cls := "SmokeRings$Play", name := "upkeepOf", desc := "(LSmokeRings$Night;I)I" } : MethodName)) ∈ gW := mem_t4 24 (by decide +kernel) (by decide +kernel)
theorem mv_RX5_108 : sr_MV RX5 108 yX6_upkeepOf cX6_upkeepOf 5 (some .int) 2 6 := ⟨⟨(RX6, TX6, 13), rfl, rfl⟩, wm_744, wm_640, wm_641, wm_5, wm_642, ⟨by decide +kernel, by decide +kernel⟩, by decide +kernel, by decide⟩
theorem wm_745 : (Cond.methodLink "SmokeRings$Plans" (114 : Nat) ({ cls := "SmokeRings$Night", name := "upkeep", desc := "(I)I" } : MethodName)) ∈ gW := mem_t4 25 (by decide +kernel) (by decide +kernel)
theorem wm_646 : (Cond.code ({ cls := "SmokeRings$Night", name := "upkeep", desc := "(I)I" } : MethodName) prog_6_method_4_code (2 : Nat) (Option.some FieldType.int)) ∈ gW := mem_t3 166 (by decide +kernel) (by decide +kernel)
theorem wm_644 : (Cond.instanceMethod ({ cls := "SmokeRings$Night", name := "upkeep", desc := "(I)I" } : MethodName)) ∈ gW := mem_t3 164 (by decide +kernel) (by decide +kernel)
theorem wm_645 : (Cond.selects "SmokeRings$Night" ({ cls := "SmokeRings$Night", name := "upkeep", desc := "(I)I" } : MethodName) ({ cls := "SmokeRings$Night", name := "upkeep", desc := "(I)I" } : MethodName)) ∈ gW := mem_t3 165 (by decide +kernel) (by decide +kernel)
theorem mv_RX5_114 : sr_MV RX5 114 yX4_upkeep cX4_upkeep 2 (some .int) 1 4 := ⟨⟨(RX4, TX4, 12), rfl, rfl⟩, wm_745, wm_644, wm_645, wm_3, wm_646, ⟨by decide +kernel, by decide +kernel⟩, by decide +kernel, by decide⟩
theorem wm_688 : (Cond.methodLink "SmokeRings$Play" (54 : Nat) ({ cls := "SmokeRings$Play", name := "begin", desc := "(LSmokeRings$Night;)V" } : MethodName)) ∈ gW := mem_t3 208 (by decide +kernel) (by decide +kernel)
theorem mv_RX6_54 : sr_MV RX6 54 yX6_begin cX6_begin 3 none 1 6 := ⟨⟨(RX6, TX6, 13), rfl, rfl⟩, wm_688, wm_583, wm_584, wm_5, wm_585, ⟨by decide +kernel, by decide +kernel⟩, by decide +kernel, by decide⟩
theorem wm_689 : (Cond.methodLink "SmokeRings$Play" (58 : Nat) ({ cls := "SmokeRings$Play", name := "takeStep", desc := "(LSmokeRings$Night;I)V" } : MethodName)) ∈ gW := mem_t3 209 (by decide +kernel) (by decide +kernel)
theorem mv_RX6_58 : sr_MV RX6 58 yX6_takeStep cX6_takeStep 9 none 2 6 := ⟨⟨(RX6, TX6, 13), rfl, rfl⟩, wm_689, wm_587, wm_588, wm_5, wm_589, ⟨by decide +kernel, by decide +kernel⟩, by decide +kernel, by decide⟩
theorem wm_590 : (Cond.methodLink "SmokeRings$Play" (79 : Nat) ({ cls := "SmokeRings$Play", name := "move", desc := "(LSmokeRings$Night;II)V" } : MethodName)) ∈ gW := mem_t3 110 (by decide +kernel) (by decide +kernel)
theorem wm_593 : (Cond.code ({ cls := "SmokeRings$Play", name := "move", desc := "(LSmokeRings$Night;II)V" } : MethodName) prog_8_method_5_code (5 : Nat) (Option.none : Option FieldType)) ∈ gW := mem_t3 113 (by decide +kernel) (by decide +kernel)
theorem wm_592 : (Cond.instanceMethod ({ cls := "SmokeRings$Play", name := "move", desc := "(LSmokeRings$Night;II)V" } : MethodName)) ∈ gW := mem_t3 112 (by decide +kernel) (by decide +kernel)
theorem pv_X6_move : Cond.selects yX6_move.cls yX6_move yX6_move ∈ gW := mem_prv (n := 13) (by decide +kernel) (by decide +kernel)
theorem mv_RX6_79 : sr_MV RX6 79 yX6_move cX6_move 5 none 3 6 := ⟨⟨(RX6, TX6, 13), rfl, rfl⟩, wm_590, wm_592, pv_X6_move, wm_5, wm_593, ⟨by decide +kernel, by decide +kernel⟩, by decide +kernel, by decide⟩
theorem wm_602 : (Cond.methodLink "SmokeRings$Play" (83 : Nat) ({ cls := "SmokeRings$Play", name := "start", desc := "(LSmokeRings$Night;I)V" } : MethodName)) ∈ gW := mem_t3 122 (by decide +kernel) (by decide +kernel)
theorem wm_605 : (Cond.code ({ cls := "SmokeRings$Play", name := "start", desc := "(LSmokeRings$Night;I)V" } : MethodName) prog_8_method_7_code (3 : Nat) (Option.none : Option FieldType)) ∈ gW := mem_t3 125 (by decide +kernel) (by decide +kernel)
theorem wm_604 : (Cond.instanceMethod ({ cls := "SmokeRings$Play", name := "start", desc := "(LSmokeRings$Night;I)V" } : MethodName)) ∈ gW := mem_t3 124 (by decide +kernel) (by decide +kernel)
theorem pv_X6_start : Cond.selects yX6_start.cls yX6_start yX6_start ∈ gW := mem_prv (n := 13) (by decide +kernel) (by decide +kernel)
theorem mv_RX6_83 : sr_MV RX6 83 yX6_start cX6_start 3 none 2 6 := ⟨⟨(RX6, TX6, 13), rfl, rfl⟩, wm_602, wm_604, pv_X6_start, wm_5, wm_605, ⟨by decide +kernel, by decide +kernel⟩, by decide +kernel, by decide⟩
theorem wm_607 : (Cond.methodLink "SmokeRings$Play" (86 : Nat) ({ cls := "SmokeRings$Play", name := "meet", desc := "(LSmokeRings$Night;I)V" } : MethodName)) ∈ gW := mem_t3 127 (by decide +kernel) (by decide +kernel)
theorem wm_610 : (Cond.code ({ cls := "SmokeRings$Play", name := "meet", desc := "(LSmokeRings$Night;I)V" } : MethodName) prog_8_method_9_code (6 : Nat) (Option.none : Option FieldType)) ∈ gW := mem_t3 130 (by decide +kernel) (by decide +kernel)
theorem wm_609 : (Cond.instanceMethod ({ cls := "SmokeRings$Play", name := "meet", desc := "(LSmokeRings$Night;I)V" } : MethodName)) ∈ gW := mem_t3 129 (by decide +kernel) (by decide +kernel)
theorem pv_X6_meet : Cond.selects yX6_meet.cls yX6_meet yX6_meet ∈ gW := mem_prv (n := 13) (by decide +kernel) (by decide +kernel)
theorem mv_RX6_86 : sr_MV RX6 86 yX6_meet cX6_meet 6 none 2 6 := ⟨⟨(RX6, TX6, 13), rfl, rfl⟩, wm_607, wm_609, pv_X6_meet, wm_5, wm_610, ⟨by decide +kernel, by decide +kernel⟩, by decide +kernel, by decide⟩
theorem wm_611 : (Cond.methodLink "SmokeRings$Play" (89 : Nat) ({ cls := "SmokeRings$Play", name := "fall", desc := "(LSmokeRings$Night;I)V" } : MethodName)) ∈ gW := mem_t3 131 (by decide +kernel) (by decide +kernel)
theorem wm_614 : (Cond.code ({ cls := "SmokeRings$Play", name := "fall", desc := "(LSmokeRings$Night;I)V" } : MethodName) prog_8_method_10_code (5 : Nat) (Option.none : Option FieldType)) ∈ gW := mem_t3 134 (by decide +kernel) (by decide +kernel)
theorem wm_613 : (Cond.instanceMethod ({ cls := "SmokeRings$Play", name := "fall", desc := "(LSmokeRings$Night;I)V" } : MethodName)) ∈ gW := mem_t3 133 (by decide +kernel) (by decide +kernel)
theorem pv_X6_fall : Cond.selects yX6_fall.cls yX6_fall yX6_fall ∈ gW := mem_prv (n := 13) (by decide +kernel) (by decide +kernel)
theorem mv_RX6_89 : sr_MV RX6 89 yX6_fall cX6_fall 5 none 2 6 := ⟨⟨(RX6, TX6, 13), rfl, rfl⟩, wm_611, wm_613, pv_X6_fall, wm_5, wm_614, ⟨by decide +kernel, by decide +kernel⟩, by decide +kernel, by decide⟩
theorem wm_594 : (Cond.methodLink "SmokeRings$Play" (95 : Nat) ({ cls := "SmokeRings$Play", name := "shift", desc := "(II)Z" } : MethodName)) ∈ gW := mem_t3 114 (by decide +kernel) (by decide +kernel)
theorem wm_597 : (Cond.code ({ cls := "SmokeRings$Play", name := "shift", desc := "(II)Z" } : MethodName) prog_8_method_6_code (5 : Nat) (Option.some FieldType.boolean)) ∈ gW := mem_t3 117 (by decide +kernel) (by decide +kernel)
theorem wm_596 : (Cond.instanceMethod ({ cls := "SmokeRings$Play", name := "shift", desc := "(II)Z" } : MethodName)) ∈ gW := mem_t3 116 (by decide +kernel) (by decide +kernel)
theorem pv_X6_shift : Cond.selects yX6_shift.cls yX6_shift yX6_shift ∈ gW := mem_prv (n := 13) (by decide +kernel) (by decide +kernel)
theorem mv_RX6_95 : sr_MV RX6 95 yX6_shift cX6_shift 5 (some .boolean) 2 6 := ⟨⟨(RX6, TX6, 13), rfl, rfl⟩, wm_594, wm_596, pv_X6_shift, wm_5, wm_597, ⟨by decide +kernel, by decide +kernel⟩, by decide +kernel, by decide⟩
theorem wm_598 : (Cond.methodLink "SmokeRings$Play" (102 : Nat) ({ cls := "SmokeRings$Play", name := "settle", desc := "(II)V" } : MethodName)) ∈ gW := mem_t3 118 (by decide +kernel) (by decide +kernel)
theorem wm_601 : (Cond.code ({ cls := "SmokeRings$Play", name := "settle", desc := "(II)V" } : MethodName) prog_8_method_8_code (3 : Nat) (Option.none : Option FieldType)) ∈ gW := mem_t3 121 (by decide +kernel) (by decide +kernel)
theorem wm_600 : (Cond.instanceMethod ({ cls := "SmokeRings$Play", name := "settle", desc := "(II)V" } : MethodName)) ∈ gW := mem_t3 120 (by decide +kernel) (by decide +kernel)
theorem pv_X6_settle : Cond.selects yX6_settle.cls yX6_settle yX6_settle ∈ gW := mem_prv (n := 13) (by decide +kernel) (by decide +kernel)
theorem mv_RX6_102 : sr_MV RX6 102 yX6_settle cX6_settle 3 none 2 6 := ⟨⟨(RX6, TX6, 13), rfl, rfl⟩, wm_598, wm_600, pv_X6_settle, wm_5, wm_601, ⟨by decide +kernel, by decide +kernel⟩, by decide +kernel, by decide⟩
theorem wm_606 : (Cond.methodLink "SmokeRings$Play" (120 : Nat) ({ cls := "SmokeRings$Valley", name := "isOpen", desc := "(I)Z" } : MethodName)) ∈ gW := mem_t3 126 (by decide +kernel) (by decide +kernel)
theorem mv_RX6_120 : sr_MV RX6 120 yX10_isOpen cX10_isOpen 2 (some .boolean) 1 10 := ⟨⟨(RX10, TX10, 3), rfl, rfl⟩, wm_606, wm_474, wm_475, wm_2, wm_476, ⟨by decide +kernel, by decide +kernel⟩, by decide +kernel, by decide⟩
theorem wm_615 : (Cond.methodLink "SmokeRings$Play" (124 : Nat) ({ cls := "SmokeRings$Night", name := "fits", desc := "(II)Z" } : MethodName)) ∈ gW := mem_t3 135 (by decide +kernel) (by decide +kernel)
theorem wm_618 : (Cond.code ({ cls := "SmokeRings$Night", name := "fits", desc := "(II)Z" } : MethodName) prog_6_method_5_code (4 : Nat) (Option.some FieldType.boolean)) ∈ gW := mem_t3 138 (by decide +kernel) (by decide +kernel)
theorem wm_616 : (Cond.instanceMethod ({ cls := "SmokeRings$Night", name := "fits", desc := "(II)Z" } : MethodName)) ∈ gW := mem_t3 136 (by decide +kernel) (by decide +kernel)
theorem wm_617 : (Cond.selects "SmokeRings$Night" ({ cls := "SmokeRings$Night", name := "fits", desc := "(II)Z" } : MethodName) ({ cls := "SmokeRings$Night", name := "fits", desc := "(II)Z" } : MethodName)) ∈ gW := mem_t3 137 (by decide +kernel) (by decide +kernel)
theorem mv_RX6_124 : sr_MV RX6 124 yX4_fits cX4_fits 4 (some .boolean) 2 4 := ⟨⟨(RX4, TX4, 12), rfl, rfl⟩, wm_615, wm_616, wm_617, wm_3, wm_618, ⟨by decide +kernel, by decide +kernel⟩, by decide +kernel, by decide⟩
theorem wm_643 : (Cond.methodLink "SmokeRings$Play" (130 : Nat) ({ cls := "SmokeRings$Night", name := "upkeep", desc := "(I)I" } : MethodName)) ∈ gW := mem_t3 163 (by decide +kernel) (by decide +kernel)
theorem mv_RX6_130 : sr_MV RX6 130 yX4_upkeep cX4_upkeep 2 (some .int) 1 4 := ⟨⟨(RX4, TX4, 12), rfl, rfl⟩, wm_643, wm_644, wm_645, wm_3, wm_646, ⟨by decide +kernel, by decide +kernel⟩, by decide +kernel, by decide⟩
theorem wm_894 : (Cond.methodLink "SmokeRings$Sheet" (22 : Nat) ({ cls := "java/lang/Math", name := "min", desc := "(II)I" } : MethodName)) ∈ gW := mem_t4 174 (by decide +kernel) (by decide +kernel)
theorem ms_RX7_22 : sr_MS RX7 22 yJ9_min_7cf53 cJ9_min_7cf53 2 (some .int) 2 := ⟨wm_894, wm_489, wm_9, wm_490, ⟨by decide +kernel, by decide +kernel⟩, by decide +kernel, by decide⟩
theorem wm_895 : (Cond.methodLink "SmokeRings$Sheet" (28 : Nat) ({ cls := "java/lang/Math", name := "max", desc := "(II)I" } : MethodName)) ∈ gW := mem_t4 175 (by decide +kernel) (by decide +kernel)
theorem ms_RX7_28 : sr_MS RX7 28 yJ9_max_7cf53 cJ9_max_7cf53 2 (some .int) 2 := ⟨wm_895, wm_238, wm_9, wm_239, ⟨by decide +kernel, by decide +kernel⟩, by decide +kernel, by decide⟩
theorem wm_896 : (Cond.methodLink "SmokeRings$Sheet" (31 : Nat) ({ cls := "java/util/Arrays", name := "fill", desc := "([II)V" } : MethodName)) ∈ gW := mem_t4 176 (by decide +kernel) (by decide +kernel)
theorem ms_RX7_31 : sr_MS RX7 31 yJ7_fill_53178 cJ7_fill_53178 4 none 2 := ⟨wm_896, wm_60, wm_4, wm_61, ⟨by decide +kernel, by decide +kernel⟩, by decide +kernel, by decide⟩
theorem wm_909 : (Cond.methodLink "SmokeRings$Sheet" (37 : Nat) ({ cls := "SmokeRings$Sheet", name := "isLost", desc := "()Z" } : MethodName)) ∈ gW := mem_t4 189 (by decide +kernel) (by decide +kernel)
theorem mv_RX7_37 : sr_MV RX7 37 yX7_isLost cX7_isLost 1 (some .boolean) 0 7 := ⟨⟨(RX7, TX7, 3), rfl, rfl⟩, wm_909, wm_559, wm_560, wm_10, wm_561, ⟨by decide +kernel, by decide +kernel⟩, by decide +kernel, by decide⟩
theorem wm_570 : (Cond.methodLink "SmokeRings$Sheet" (41 : Nat) ({ cls := "SmokeRings$Sheet", name := "hasItem", desc := "(I)Z" } : MethodName)) ∈ gW := mem_t3 90 (by decide +kernel) (by decide +kernel)
theorem wm_573 : (Cond.code ({ cls := "SmokeRings$Sheet", name := "hasItem", desc := "(I)Z" } : MethodName) prog_9_method_5_code (2 : Nat) (Option.some FieldType.boolean)) ∈ gW := mem_t3 93 (by decide +kernel) (by decide +kernel)
theorem wm_572 : (Cond.instanceMethod ({ cls := "SmokeRings$Sheet", name := "hasItem", desc := "(I)Z" } : MethodName)) ∈ gW := mem_t3 92 (by decide +kernel) (by decide +kernel)
theorem pv_X7_hasItem : Cond.selects yX7_hasItem.cls yX7_hasItem yX7_hasItem ∈ gW := mem_prv (n := 3) (by decide +kernel) (by decide +kernel)
theorem mv_RX7_41 : sr_MV RX7 41 yX7_hasItem cX7_hasItem 2 (some .boolean) 1 7 := ⟨⟨(RX7, TX7, 3), rfl, rfl⟩, wm_570, wm_572, pv_X7_hasItem, wm_10, wm_573, ⟨by decide +kernel, by decide +kernel⟩, by decide +kernel, by decide⟩
theorem wm_776 : (Cond.methodLink "SmokeRings$Sights" (26 : Nat) ({ cls := "SmokeRings$Play", name := "outcome", desc := "(I)I" } : MethodName)) ∈ gW := mem_t4 56 (by decide +kernel) (by decide +kernel)
theorem mv_RX8_26 : sr_MV RX8 26 yX6_outcome cX6_outcome 2 (some .int) 1 6 := ⟨⟨(RX6, TX6, 13), rfl, rfl⟩, wm_776, wm_777, wm_778, wm_5, wm_779, ⟨by decide +kernel, by decide +kernel⟩, by decide +kernel, by decide⟩
theorem wm_237 : (Cond.methodLink "SmokeRings$Text" (15 : Nat) ({ cls := "java/lang/Math", name := "max", desc := "(II)I" } : MethodName)) ∈ gW := mem_t1 237 (by decide +kernel) (by decide +kernel)
theorem ms_RX9_15 : sr_MS RX9 15 yJ9_max_7cf53 cJ9_max_7cf53 2 (some .int) 2 := ⟨wm_237, wm_238, wm_9, wm_239, ⟨by decide +kernel, by decide +kernel⟩, by decide +kernel, by decide⟩
theorem wm_454 : (Cond.methodLink "SmokeRings$Valley" (23 : Nat) ({ cls := "SmokeRings$Valley", name := "firstFault", desc := "(LSmokeRings$Text;)I" } : MethodName)) ∈ gW := mem_t2 214 (by decide +kernel) (by decide +kernel)
theorem wm_456 : (Cond.code ({ cls := "SmokeRings$Valley", name := "firstFault", desc := "(LSmokeRings$Text;)I" } : MethodName) prog_12_method_4_code (6 : Nat) (Option.some FieldType.int)) ∈ gW := mem_t2 216 (by decide +kernel) (by decide +kernel)
theorem wm_455 : (Cond.static ({ cls := "SmokeRings$Valley", name := "firstFault", desc := "(LSmokeRings$Text;)I" } : MethodName)) ∈ gW := mem_t2 215 (by decide +kernel) (by decide +kernel)
theorem ms_RX10_23 : sr_MS RX10 23 yX10_firstFault cX10_firstFault 6 (some .int) 1 := ⟨wm_454, wm_455, wm_2, wm_456, ⟨by decide +kernel, by decide +kernel⟩, by decide +kernel, by decide⟩
theorem wm_461 : (Cond.methodLink "SmokeRings$Valley" (27 : Nat) ({ cls := "SmokeRings$Valley", name := "fill", desc := "(LSmokeRings$Text;)I" } : MethodName)) ∈ gW := mem_t2 221 (by decide +kernel) (by decide +kernel)
theorem wm_464 : (Cond.code ({ cls := "SmokeRings$Valley", name := "fill", desc := "(LSmokeRings$Text;)I" } : MethodName) prog_12_method_5_code (5 : Nat) (Option.some FieldType.int)) ∈ gW := mem_t2 224 (by decide +kernel) (by decide +kernel)
theorem wm_463 : (Cond.instanceMethod ({ cls := "SmokeRings$Valley", name := "fill", desc := "(LSmokeRings$Text;)I" } : MethodName)) ∈ gW := mem_t2 223 (by decide +kernel) (by decide +kernel)
theorem pv_X10_fill : Cond.selects yX10_fill.cls yX10_fill yX10_fill ∈ gW := mem_prv (n := 3) (by decide +kernel) (by decide +kernel)
theorem mv_RX10_27 : sr_MV RX10 27 yX10_fill cX10_fill 5 (some .int) 1 10 := ⟨⟨(RX10, TX10, 3), rfl, rfl⟩, wm_461, wm_463, pv_X10_fill, wm_2, wm_464, ⟨by decide +kernel, by decide +kernel⟩, by decide +kernel, by decide⟩
theorem wm_465 : (Cond.methodLink "SmokeRings$Valley" (30 : Nat) ({ cls := "SmokeRings$Valley", name := "link", desc := "(II)V" } : MethodName)) ∈ gW := mem_t2 225 (by decide +kernel) (by decide +kernel)
theorem wm_468 : (Cond.code ({ cls := "SmokeRings$Valley", name := "link", desc := "(II)V" } : MethodName) prog_12_method_6_code (4 : Nat) (Option.none : Option FieldType)) ∈ gW := mem_t2 228 (by decide +kernel) (by decide +kernel)
theorem wm_467 : (Cond.instanceMethod ({ cls := "SmokeRings$Valley", name := "link", desc := "(II)V" } : MethodName)) ∈ gW := mem_t2 227 (by decide +kernel) (by decide +kernel)
theorem pv_X10_link : Cond.selects yX10_link.cls yX10_link yX10_link ∈ gW := mem_prv (n := 3) (by decide +kernel) (by decide +kernel)
theorem mv_RX10_30 : sr_MV RX10 30 yX10_link cX10_link 4 none 2 10 := ⟨⟨(RX10, TX10, 3), rfl, rfl⟩, wm_465, wm_467, pv_X10_link, wm_2, wm_468, ⟨by decide +kernel, by decide +kernel⟩, by decide +kernel, by decide⟩
theorem wm_457 : (Cond.methodLink "SmokeRings$Valley" (39 : Nat) ({ cls := "SmokeRings$Text", name := "sign", desc := "(I)I" } : MethodName)) ∈ gW := mem_t2 217 (by decide +kernel) (by decide +kernel)
theorem mv_RX10_39 : sr_MV RX10 39 yX9_sign cX9_sign 2 (some .int) 1 9 := ⟨⟨(RX9, TX9, 2), rfl, rfl⟩, wm_457, wm_458, wm_459, wm_8, wm_460, ⟨by decide +kernel, by decide +kernel⟩, by decide +kernel, by decide⟩
theorem wm_469 : (Cond.methodLink "SmokeRings$Valley" (43 : Nat) ({ cls := "SmokeRings$Valley", name := "link", desc := "(IIIZ)V" } : MethodName)) ∈ gW := mem_t2 229 (by decide +kernel) (by decide +kernel)
theorem wm_472 : (Cond.code ({ cls := "SmokeRings$Valley", name := "link", desc := "(IIIZ)V" } : MethodName) prog_12_method_7_code (5 : Nat) (Option.none : Option FieldType)) ∈ gW := mem_t2 232 (by decide +kernel) (by decide +kernel)
theorem wm_471 : (Cond.instanceMethod ({ cls := "SmokeRings$Valley", name := "link", desc := "(IIIZ)V" } : MethodName)) ∈ gW := mem_t2 231 (by decide +kernel) (by decide +kernel)
theorem pv_X10_link_ : Cond.selects yX10_link_.cls yX10_link_ yX10_link_ ∈ gW := mem_prv (n := 3) (by decide +kernel) (by decide +kernel)
theorem mv_RX10_43 : sr_MV RX10 43 yX10_link_ cX10_link_ 5 none 4 10 := ⟨⟨(RX10, TX10, 3), rfl, rfl⟩, wm_469, wm_471, pv_X10_link_, wm_2, wm_472, ⟨by decide +kernel, by decide +kernel⟩, by decide +kernel, by decide⟩
theorem wm_473 : (Cond.methodLink "SmokeRings$Valley" (46 : Nat) ({ cls := "SmokeRings$Valley", name := "isOpen", desc := "(I)Z" } : MethodName)) ∈ gW := mem_t2 233 (by decide +kernel) (by decide +kernel)
theorem mv_RX10_46 : sr_MV RX10 46 yX10_isOpen cX10_isOpen 2 (some .boolean) 1 10 := ⟨⟨(RX10, TX10, 3), rfl, rfl⟩, wm_473, wm_474, wm_475, wm_2, wm_476, ⟨by decide +kernel, by decide +kernel⟩, by decide +kernel, by decide⟩
theorem wm_435 : (Cond.methodLink "SmokeRingsLaw" (13 : Nat) ({ cls := "SmokeRings", name := "type", desc := "(II)I" } : MethodName)) ∈ gW := mem_t2 195 (by decide +kernel) (by decide +kernel)
theorem wm_438 : (Cond.code ({ cls := "SmokeRings", name := "type", desc := "(II)I" } : MethodName) prog_1_method_2_code (3 : Nat) (Option.some FieldType.int)) ∈ gW := mem_t2 198 (by decide +kernel) (by decide +kernel)
theorem wm_436 : (Cond.instanceMethod ({ cls := "SmokeRings", name := "type", desc := "(II)I" } : MethodName)) ∈ gW := mem_t2 196 (by decide +kernel) (by decide +kernel)
theorem wm_437 : (Cond.selects "SmokeRings" ({ cls := "SmokeRings", name := "type", desc := "(II)I" } : MethodName) ({ cls := "SmokeRings", name := "type", desc := "(II)I" } : MethodName)) ∈ gW := mem_t2 197 (by decide +kernel) (by decide +kernel)
theorem mv_RL_13 : sr_MV RL 13 yX11_type cX11_type 3 (some .int) 2 11 := ⟨⟨(RX11, TX11, 13), rfl, rfl⟩, wm_435, wm_436, wm_437, wm_1, wm_438, ⟨by decide +kernel, by decide +kernel⟩, by decide +kernel, by decide⟩
theorem wm_1115 : (Cond.methodLink "SmokeRingsLaw" (17 : Nat) ({ cls := "SmokeRingsModel", name := "type", desc := "(II)I" } : MethodName)) ∈ gW := mem_t5 155 (by decide +kernel) (by decide +kernel)
theorem wm_1118 : (Cond.code ({ cls := "SmokeRingsModel", name := "type", desc := "(II)I" } : MethodName) prog_14_method_21_code (3 : Nat) (Option.some FieldType.int)) ∈ gW := mem_t5 158 (by decide +kernel) (by decide +kernel)
theorem wm_15 : (Cond.initialized "SmokeRingsModel") ∈ gW := mem_t1 15 (by decide +kernel) (by decide +kernel)
theorem wm_1116 : (Cond.instanceMethod ({ cls := "SmokeRingsModel", name := "type", desc := "(II)I" } : MethodName)) ∈ gW := mem_t5 156 (by decide +kernel) (by decide +kernel)
theorem wm_1117 : (Cond.selects "SmokeRingsModel" ({ cls := "SmokeRingsModel", name := "type", desc := "(II)I" } : MethodName) ({ cls := "SmokeRingsModel", name := "type", desc := "(II)I" } : MethodName)) ∈ gW := mem_t5 157 (by decide +kernel) (by decide +kernel)
theorem mv_RL_17 : sr_MV RL 17 yX12_type cX12_type 3 (some .int) 2 12 := ⟨⟨(RX12, TX12, 32), rfl, rfl⟩, wm_1115, wm_1116, wm_1117, wm_15, wm_1118, ⟨by decide +kernel, by decide +kernel⟩, by decide +kernel, by decide⟩
theorem wm_498 : (Cond.methodLink "SmokeRingsLaw" (18 : Nat) ({ cls := "SmokeRings", name := "wipe", desc := "(I)I" } : MethodName)) ∈ gW := mem_t3 18 (by decide +kernel) (by decide +kernel)
theorem wm_501 : (Cond.code ({ cls := "SmokeRings", name := "wipe", desc := "(I)I" } : MethodName) prog_1_method_3_code (3 : Nat) (Option.some FieldType.int)) ∈ gW := mem_t3 21 (by decide +kernel) (by decide +kernel)
theorem wm_499 : (Cond.instanceMethod ({ cls := "SmokeRings", name := "wipe", desc := "(I)I" } : MethodName)) ∈ gW := mem_t3 19 (by decide +kernel) (by decide +kernel)
theorem wm_500 : (Cond.selects "SmokeRings" ({ cls := "SmokeRings", name := "wipe", desc := "(I)I" } : MethodName) ({ cls := "SmokeRings", name := "wipe", desc := "(I)I" } : MethodName)) ∈ gW := mem_t3 20 (by decide +kernel) (by decide +kernel)
theorem mv_RL_18 : sr_MV RL 18 yX11_wipe cX11_wipe 3 (some .int) 1 11 := ⟨⟨(RX11, TX11, 13), rfl, rfl⟩, wm_498, wm_499, wm_500, wm_1, wm_501, ⟨by decide +kernel, by decide +kernel⟩, by decide +kernel, by decide⟩
theorem wm_1123 : (Cond.methodLink "SmokeRingsLaw" (22 : Nat) ({ cls := "SmokeRingsModel", name := "wipe", desc := "(I)I" } : MethodName)) ∈ gW := mem_t5 163 (by decide +kernel) (by decide +kernel)
theorem wm_1126 : (Cond.code ({ cls := "SmokeRingsModel", name := "wipe", desc := "(I)I" } : MethodName) prog_14_method_22_code (3 : Nat) (Option.some FieldType.int)) ∈ gW := mem_t5 166 (by decide +kernel) (by decide +kernel)
theorem wm_1124 : (Cond.instanceMethod ({ cls := "SmokeRingsModel", name := "wipe", desc := "(I)I" } : MethodName)) ∈ gW := mem_t5 164 (by decide +kernel) (by decide +kernel)
theorem wm_1125 : (Cond.selects "SmokeRingsModel" ({ cls := "SmokeRingsModel", name := "wipe", desc := "(I)I" } : MethodName) ({ cls := "SmokeRingsModel", name := "wipe", desc := "(I)I" } : MethodName)) ∈ gW := mem_t5 165 (by decide +kernel) (by decide +kernel)
theorem mv_RL_22 : sr_MV RL 22 yX12_wipe cX12_wipe 3 (some .int) 1 12 := ⟨⟨(RX12, TX12, 32), rfl, rfl⟩, wm_1123, wm_1124, wm_1125, wm_15, wm_1126, ⟨by decide +kernel, by decide +kernel⟩, by decide +kernel, by decide⟩
theorem wm_502 : (Cond.methodLink "SmokeRingsLaw" (23 : Nat) ({ cls := "SmokeRings", name := "undo", desc := "(I)I" } : MethodName)) ∈ gW := mem_t3 22 (by decide +kernel) (by decide +kernel)
theorem wm_505 : (Cond.code ({ cls := "SmokeRings", name := "undo", desc := "(I)I" } : MethodName) prog_1_method_4_code (2 : Nat) (Option.some FieldType.int)) ∈ gW := mem_t3 25 (by decide +kernel) (by decide +kernel)
theorem wm_503 : (Cond.instanceMethod ({ cls := "SmokeRings", name := "undo", desc := "(I)I" } : MethodName)) ∈ gW := mem_t3 23 (by decide +kernel) (by decide +kernel)
theorem wm_504 : (Cond.selects "SmokeRings" ({ cls := "SmokeRings", name := "undo", desc := "(I)I" } : MethodName) ({ cls := "SmokeRings", name := "undo", desc := "(I)I" } : MethodName)) ∈ gW := mem_t3 24 (by decide +kernel) (by decide +kernel)
theorem mv_RL_23 : sr_MV RL 23 yX11_undo cX11_undo 2 (some .int) 1 11 := ⟨⟨(RX11, TX11, 13), rfl, rfl⟩, wm_502, wm_503, wm_504, wm_1, wm_505, ⟨by decide +kernel, by decide +kernel⟩, by decide +kernel, by decide⟩
theorem wm_1127 : (Cond.methodLink "SmokeRingsLaw" (26 : Nat) ({ cls := "SmokeRingsModel", name := "undo", desc := "(I)I" } : MethodName)) ∈ gW := mem_t5 167 (by decide +kernel) (by decide +kernel)
theorem wm_1130 : (Cond.code ({ cls := "SmokeRingsModel", name := "undo", desc := "(I)I" } : MethodName) prog_14_method_23_code (2 : Nat) (Option.some FieldType.int)) ∈ gW := mem_t5 170 (by decide +kernel) (by decide +kernel)
theorem wm_1128 : (Cond.instanceMethod ({ cls := "SmokeRingsModel", name := "undo", desc := "(I)I" } : MethodName)) ∈ gW := mem_t5 168 (by decide +kernel) (by decide +kernel)
theorem wm_1129 : (Cond.selects "SmokeRingsModel" ({ cls := "SmokeRingsModel", name := "undo", desc := "(I)I" } : MethodName) ({ cls := "SmokeRingsModel", name := "undo", desc := "(I)I" } : MethodName)) ∈ gW := mem_t5 169 (by decide +kernel) (by decide +kernel)
theorem mv_RL_26 : sr_MV RL 26 yX12_undo cX12_undo 2 (some .int) 1 12 := ⟨⟨(RX12, TX12, 32), rfl, rfl⟩, wm_1127, wm_1128, wm_1129, wm_15, wm_1130, ⟨by decide +kernel, by decide +kernel⟩, by decide +kernel, by decide⟩
theorem wm_506 : (Cond.methodLink "SmokeRingsLaw" (27 : Nat) ({ cls := "SmokeRings", name := "fault", desc := "(I)I" } : MethodName)) ∈ gW := mem_t3 26 (by decide +kernel) (by decide +kernel)
theorem wm_509 : (Cond.code ({ cls := "SmokeRings", name := "fault", desc := "(I)I" } : MethodName) prog_1_method_5_code (2 : Nat) (Option.some FieldType.int)) ∈ gW := mem_t3 29 (by decide +kernel) (by decide +kernel)
theorem wm_507 : (Cond.instanceMethod ({ cls := "SmokeRings", name := "fault", desc := "(I)I" } : MethodName)) ∈ gW := mem_t3 27 (by decide +kernel) (by decide +kernel)
theorem wm_508 : (Cond.selects "SmokeRings" ({ cls := "SmokeRings", name := "fault", desc := "(I)I" } : MethodName) ({ cls := "SmokeRings", name := "fault", desc := "(I)I" } : MethodName)) ∈ gW := mem_t3 28 (by decide +kernel) (by decide +kernel)
theorem mv_RL_27 : sr_MV RL 27 yX11_fault cX11_fault 2 (some .int) 1 11 := ⟨⟨(RX11, TX11, 13), rfl, rfl⟩, wm_506, wm_507, wm_508, wm_1, wm_509, ⟨by decide +kernel, by decide +kernel⟩, by decide +kernel, by decide⟩
theorem wm_1131 : (Cond.methodLink "SmokeRingsLaw" (30 : Nat) ({ cls := "SmokeRingsModel", name := "fault", desc := "(I)I" } : MethodName)) ∈ gW := mem_t5 171 (by decide +kernel) (by decide +kernel)
theorem wm_1134 : (Cond.code ({ cls := "SmokeRingsModel", name := "fault", desc := "(I)I" } : MethodName) prog_14_method_31_code (2 : Nat) (Option.some FieldType.int)) ∈ gW := mem_t5 174 (by decide +kernel) (by decide +kernel)
theorem wm_1132 : (Cond.instanceMethod ({ cls := "SmokeRingsModel", name := "fault", desc := "(I)I" } : MethodName)) ∈ gW := mem_t5 172 (by decide +kernel) (by decide +kernel)
theorem wm_1133 : (Cond.selects "SmokeRingsModel" ({ cls := "SmokeRingsModel", name := "fault", desc := "(I)I" } : MethodName) ({ cls := "SmokeRingsModel", name := "fault", desc := "(I)I" } : MethodName)) ∈ gW := mem_t5 173 (by decide +kernel) (by decide +kernel)
theorem mv_RL_30 : sr_MV RL 30 yX12_fault cX12_fault 2 (some .int) 1 12 := ⟨⟨(RX12, TX12, 32), rfl, rfl⟩, wm_1131, wm_1132, wm_1133, wm_15, wm_1134, ⟨by decide +kernel, by decide +kernel⟩, by decide +kernel, by decide⟩
theorem wm_510 : (Cond.methodLink "SmokeRingsLaw" (31 : Nat) ({ cls := "SmokeRings", name := "cell", desc := "(I)I" } : MethodName)) ∈ gW := mem_t3 30 (by decide +kernel) (by decide +kernel)
theorem mv_RL_31 : sr_MV RL 31 yX11_cell cX11_cell 2 (some .int) 1 11 := ⟨⟨(RX11, TX11, 13), rfl, rfl⟩, wm_510, wm_511, wm_512, wm_1, wm_513, ⟨by decide +kernel, by decide +kernel⟩, by decide +kernel, by decide⟩
theorem wm_1166 : (Cond.methodLink "SmokeRingsLaw" (34 : Nat) ({ cls := "SmokeRingsModel", name := "cell", desc := "(I)I" } : MethodName)) ∈ gW := mem_t5 206 (by decide +kernel) (by decide +kernel)
theorem wm_1169 : (Cond.code ({ cls := "SmokeRingsModel", name := "cell", desc := "(I)I" } : MethodName) prog_14_method_35_code (2 : Nat) (Option.some FieldType.int)) ∈ gW := mem_t5 209 (by decide +kernel) (by decide +kernel)
theorem wm_1167 : (Cond.instanceMethod ({ cls := "SmokeRingsModel", name := "cell", desc := "(I)I" } : MethodName)) ∈ gW := mem_t5 207 (by decide +kernel) (by decide +kernel)
theorem wm_1168 : (Cond.selects "SmokeRingsModel" ({ cls := "SmokeRingsModel", name := "cell", desc := "(I)I" } : MethodName) ({ cls := "SmokeRingsModel", name := "cell", desc := "(I)I" } : MethodName)) ∈ gW := mem_t5 208 (by decide +kernel) (by decide +kernel)
theorem mv_RL_34 : sr_MV RL 34 yX12_cell cX12_cell 2 (some .int) 1 12 := ⟨⟨(RX12, TX12, 32), rfl, rfl⟩, wm_1166, wm_1167, wm_1168, wm_15, wm_1169, ⟨by decide +kernel, by decide +kernel⟩, by decide +kernel, by decide⟩
theorem wm_515 : (Cond.methodLink "SmokeRingsLaw" (35 : Nat) ({ cls := "SmokeRings", name := "thing", desc := "(II)I" } : MethodName)) ∈ gW := mem_t3 35 (by decide +kernel) (by decide +kernel)
theorem mv_RL_35 : sr_MV RL 35 yX11_thing cX11_thing 3 (some .int) 2 11 := ⟨⟨(RX11, TX11, 13), rfl, rfl⟩, wm_515, wm_516, wm_517, wm_1, wm_518, ⟨by decide +kernel, by decide +kernel⟩, by decide +kernel, by decide⟩
theorem wm_1171 : (Cond.methodLink "SmokeRingsLaw" (38 : Nat) ({ cls := "SmokeRingsModel", name := "thing", desc := "(II)I" } : MethodName)) ∈ gW := mem_t5 211 (by decide +kernel) (by decide +kernel)
theorem wm_1174 : (Cond.code ({ cls := "SmokeRingsModel", name := "thing", desc := "(II)I" } : MethodName) prog_14_method_36_code (3 : Nat) (Option.some FieldType.int)) ∈ gW := mem_t5 214 (by decide +kernel) (by decide +kernel)
theorem wm_1172 : (Cond.instanceMethod ({ cls := "SmokeRingsModel", name := "thing", desc := "(II)I" } : MethodName)) ∈ gW := mem_t5 212 (by decide +kernel) (by decide +kernel)
theorem wm_1173 : (Cond.selects "SmokeRingsModel" ({ cls := "SmokeRingsModel", name := "thing", desc := "(II)I" } : MethodName) ({ cls := "SmokeRingsModel", name := "thing", desc := "(II)I" } : MethodName)) ∈ gW := mem_t5 213 (by decide +kernel) (by decide +kernel)
theorem mv_RL_38 : sr_MV RL 38 yX12_thing cX12_thing 3 (some .int) 2 12 := ⟨⟨(RX12, TX12, 32), rfl, rfl⟩, wm_1171, wm_1172, wm_1173, wm_15, wm_1174, ⟨by decide +kernel, by decide +kernel⟩, by decide +kernel, by decide⟩
theorem wm_523 : (Cond.methodLink "SmokeRingsLaw" (39 : Nat) ({ cls := "SmokeRings", name := "wind", desc := "(I)I" } : MethodName)) ∈ gW := mem_t3 43 (by decide +kernel) (by decide +kernel)
theorem wm_526 : (Cond.code ({ cls := "SmokeRings", name := "wind", desc := "(I)I" } : MethodName) prog_1_method_8_code (2 : Nat) (Option.some FieldType.int)) ∈ gW := mem_t3 46 (by decide +kernel) (by decide +kernel)
theorem wm_524 : (Cond.instanceMethod ({ cls := "SmokeRings", name := "wind", desc := "(I)I" } : MethodName)) ∈ gW := mem_t3 44 (by decide +kernel) (by decide +kernel)
theorem wm_525 : (Cond.selects "SmokeRings" ({ cls := "SmokeRings", name := "wind", desc := "(I)I" } : MethodName) ({ cls := "SmokeRings", name := "wind", desc := "(I)I" } : MethodName)) ∈ gW := mem_t3 45 (by decide +kernel) (by decide +kernel)
theorem mv_RL_39 : sr_MV RL 39 yX11_wind cX11_wind 2 (some .int) 1 11 := ⟨⟨(RX11, TX11, 13), rfl, rfl⟩, wm_523, wm_524, wm_525, wm_1, wm_526, ⟨by decide +kernel, by decide +kernel⟩, by decide +kernel, by decide⟩
theorem wm_1179 : (Cond.methodLink "SmokeRingsLaw" (42 : Nat) ({ cls := "SmokeRingsModel", name := "wind", desc := "(I)I" } : MethodName)) ∈ gW := mem_t5 219 (by decide +kernel) (by decide +kernel)
theorem wm_1182 : (Cond.code ({ cls := "SmokeRingsModel", name := "wind", desc := "(I)I" } : MethodName) prog_14_method_37_code (2 : Nat) (Option.some FieldType.int)) ∈ gW := mem_t5 222 (by decide +kernel) (by decide +kernel)
theorem wm_1180 : (Cond.instanceMethod ({ cls := "SmokeRingsModel", name := "wind", desc := "(I)I" } : MethodName)) ∈ gW := mem_t5 220 (by decide +kernel) (by decide +kernel)
theorem wm_1181 : (Cond.selects "SmokeRingsModel" ({ cls := "SmokeRingsModel", name := "wind", desc := "(I)I" } : MethodName) ({ cls := "SmokeRingsModel", name := "wind", desc := "(I)I" } : MethodName)) ∈ gW := mem_t5 221 (by decide +kernel) (by decide +kernel)
theorem mv_RL_42 : sr_MV RL 42 yX12_wind cX12_wind 2 (some .int) 1 12 := ⟨⟨(RX12, TX12, 32), rfl, rfl⟩, wm_1179, wm_1180, wm_1181, wm_15, wm_1182, ⟨by decide +kernel, by decide +kernel⟩, by decide +kernel, by decide⟩
theorem wm_527 : (Cond.methodLink "SmokeRingsLaw" (43 : Nat) ({ cls := "SmokeRings", name := "widens", desc := "(I)I" } : MethodName)) ∈ gW := mem_t3 47 (by decide +kernel) (by decide +kernel)
theorem wm_530 : (Cond.code ({ cls := "SmokeRings", name := "widens", desc := "(I)I" } : MethodName) prog_1_method_9_code (3 : Nat) (Option.some FieldType.int)) ∈ gW := mem_t3 50 (by decide +kernel) (by decide +kernel)
theorem wm_528 : (Cond.instanceMethod ({ cls := "SmokeRings", name := "widens", desc := "(I)I" } : MethodName)) ∈ gW := mem_t3 48 (by decide +kernel) (by decide +kernel)
theorem wm_529 : (Cond.selects "SmokeRings" ({ cls := "SmokeRings", name := "widens", desc := "(I)I" } : MethodName) ({ cls := "SmokeRings", name := "widens", desc := "(I)I" } : MethodName)) ∈ gW := mem_t3 49 (by decide +kernel) (by decide +kernel)
theorem mv_RL_43 : sr_MV RL 43 yX11_widens cX11_widens 3 (some .int) 1 11 := ⟨⟨(RX11, TX11, 13), rfl, rfl⟩, wm_527, wm_528, wm_529, wm_1, wm_530, ⟨by decide +kernel, by decide +kernel⟩, by decide +kernel, by decide⟩
theorem wm_1187 : (Cond.methodLink "SmokeRingsLaw" (46 : Nat) ({ cls := "SmokeRingsModel", name := "widens", desc := "(I)I" } : MethodName)) ∈ gW := mem_t5 227 (by decide +kernel) (by decide +kernel)
theorem wm_1190 : (Cond.code ({ cls := "SmokeRingsModel", name := "widens", desc := "(I)I" } : MethodName) prog_14_method_38_code (3 : Nat) (Option.some FieldType.int)) ∈ gW := mem_t5 230 (by decide +kernel) (by decide +kernel)
theorem wm_1188 : (Cond.instanceMethod ({ cls := "SmokeRingsModel", name := "widens", desc := "(I)I" } : MethodName)) ∈ gW := mem_t5 228 (by decide +kernel) (by decide +kernel)
theorem wm_1189 : (Cond.selects "SmokeRingsModel" ({ cls := "SmokeRingsModel", name := "widens", desc := "(I)I" } : MethodName) ({ cls := "SmokeRingsModel", name := "widens", desc := "(I)I" } : MethodName)) ∈ gW := mem_t5 229 (by decide +kernel) (by decide +kernel)
theorem mv_RL_46 : sr_MV RL 46 yX12_widens cX12_widens 3 (some .int) 1 12 := ⟨⟨(RX12, TX12, 32), rfl, rfl⟩, wm_1187, wm_1188, wm_1189, wm_15, wm_1190, ⟨by decide +kernel, by decide +kernel⟩, by decide +kernel, by decide⟩
theorem wm_531 : (Cond.methodLink "SmokeRingsLaw" (47 : Nat) ({ cls := "SmokeRings", name := "blow", desc := "(IIIII)I" } : MethodName)) ∈ gW := mem_t3 51 (by decide +kernel) (by decide +kernel)
theorem wm_534 : (Cond.code ({ cls := "SmokeRings", name := "blow", desc := "(IIIII)I" } : MethodName) prog_1_method_10_code (6 : Nat) (Option.some FieldType.int)) ∈ gW := mem_t3 54 (by decide +kernel) (by decide +kernel)
theorem wm_532 : (Cond.instanceMethod ({ cls := "SmokeRings", name := "blow", desc := "(IIIII)I" } : MethodName)) ∈ gW := mem_t3 52 (by decide +kernel) (by decide +kernel)
theorem wm_533 : (Cond.selects "SmokeRings" ({ cls := "SmokeRings", name := "blow", desc := "(IIIII)I" } : MethodName) ({ cls := "SmokeRings", name := "blow", desc := "(IIIII)I" } : MethodName)) ∈ gW := mem_t3 53 (by decide +kernel) (by decide +kernel)
theorem mv_RL_47 : sr_MV RL 47 yX11_blow cX11_blow 6 (some .int) 5 11 := ⟨⟨(RX11, TX11, 13), rfl, rfl⟩, wm_531, wm_532, wm_533, wm_1, wm_534, ⟨by decide +kernel, by decide +kernel⟩, by decide +kernel, by decide⟩
theorem wm_1192 : (Cond.methodLink "SmokeRingsLaw" (51 : Nat) ({ cls := "SmokeRingsModel", name := "blow", desc := "(IIIII)I" } : MethodName)) ∈ gW := mem_t5 232 (by decide +kernel) (by decide +kernel)
theorem wm_1195 : (Cond.code ({ cls := "SmokeRingsModel", name := "blow", desc := "(IIIII)I" } : MethodName) prog_14_method_40_code (6 : Nat) (Option.some FieldType.int)) ∈ gW := mem_t5 235 (by decide +kernel) (by decide +kernel)
theorem wm_1193 : (Cond.instanceMethod ({ cls := "SmokeRingsModel", name := "blow", desc := "(IIIII)I" } : MethodName)) ∈ gW := mem_t5 233 (by decide +kernel) (by decide +kernel)
theorem wm_1194 : (Cond.selects "SmokeRingsModel" ({ cls := "SmokeRingsModel", name := "blow", desc := "(IIIII)I" } : MethodName) ({ cls := "SmokeRingsModel", name := "blow", desc := "(IIIII)I" } : MethodName)) ∈ gW := mem_t5 234 (by decide +kernel) (by decide +kernel)
theorem mv_RL_51 : sr_MV RL 51 yX12_blow cX12_blow 6 (some .int) 5 12 := ⟨⟨(RX12, TX12, 32), rfl, rfl⟩, wm_1192, wm_1193, wm_1194, wm_15, wm_1195, ⟨by decide +kernel, by decide +kernel⟩, by decide +kernel, by decide⟩
theorem wm_542 : (Cond.methodLink "SmokeRingsLaw" (52 : Nat) ({ cls := "SmokeRings", name := "ring", desc := "(II)I" } : MethodName)) ∈ gW := mem_t3 62 (by decide +kernel) (by decide +kernel)
theorem mv_RL_52 : sr_MV RL 52 yX11_ring cX11_ring 3 (some .int) 2 11 := ⟨⟨(RX11, TX11, 13), rfl, rfl⟩, wm_542, wm_543, wm_544, wm_1, wm_545, ⟨by decide +kernel, by decide +kernel⟩, by decide +kernel, by decide⟩
theorem wm_1201 : (Cond.methodLink "SmokeRingsLaw" (55 : Nat) ({ cls := "SmokeRingsModel", name := "ring", desc := "(II)I" } : MethodName)) ∈ gW := mem_t6 1 (by decide +kernel) (by decide +kernel)
theorem wm_1204 : (Cond.code ({ cls := "SmokeRingsModel", name := "ring", desc := "(II)I" } : MethodName) prog_14_method_42_code (3 : Nat) (Option.some FieldType.int)) ∈ gW := mem_t6 4 (by decide +kernel) (by decide +kernel)
theorem wm_1202 : (Cond.instanceMethod ({ cls := "SmokeRingsModel", name := "ring", desc := "(II)I" } : MethodName)) ∈ gW := mem_t6 2 (by decide +kernel) (by decide +kernel)
theorem wm_1203 : (Cond.selects "SmokeRingsModel" ({ cls := "SmokeRingsModel", name := "ring", desc := "(II)I" } : MethodName) ({ cls := "SmokeRingsModel", name := "ring", desc := "(II)I" } : MethodName)) ∈ gW := mem_t6 3 (by decide +kernel) (by decide +kernel)
theorem mv_RL_55 : sr_MV RL 55 yX12_ring cX12_ring 3 (some .int) 2 12 := ⟨⟨(RX12, TX12, 32), rfl, rfl⟩, wm_1201, wm_1202, wm_1203, wm_15, wm_1204, ⟨by decide +kernel, by decide +kernel⟩, by decide +kernel, by decide⟩
theorem wm_550 : (Cond.methodLink "SmokeRingsLaw" (56 : Nat) ({ cls := "SmokeRings", name := "back", desc := "()I" } : MethodName)) ∈ gW := mem_t3 70 (by decide +kernel) (by decide +kernel)
theorem wm_553 : (Cond.code ({ cls := "SmokeRings", name := "back", desc := "()I" } : MethodName) prog_1_method_12_code (1 : Nat) (Option.some FieldType.int)) ∈ gW := mem_t3 73 (by decide +kernel) (by decide +kernel)
theorem wm_551 : (Cond.instanceMethod ({ cls := "SmokeRings", name := "back", desc := "()I" } : MethodName)) ∈ gW := mem_t3 71 (by decide +kernel) (by decide +kernel)
theorem wm_552 : (Cond.selects "SmokeRings" ({ cls := "SmokeRings", name := "back", desc := "()I" } : MethodName) ({ cls := "SmokeRings", name := "back", desc := "()I" } : MethodName)) ∈ gW := mem_t3 72 (by decide +kernel) (by decide +kernel)
theorem mv_RL_56 : sr_MV RL 56 yX11_back cX11_back 1 (some .int) 0 11 := ⟨⟨(RX11, TX11, 13), rfl, rfl⟩, wm_550, wm_551, wm_552, wm_1, wm_553, ⟨by decide +kernel, by decide +kernel⟩, by decide +kernel, by decide⟩
theorem wm_1209 : (Cond.methodLink "SmokeRingsLaw" (60 : Nat) ({ cls := "SmokeRingsModel", name := "back", desc := "()I" } : MethodName)) ∈ gW := mem_t6 9 (by decide +kernel) (by decide +kernel)
theorem wm_1212 : (Cond.code ({ cls := "SmokeRingsModel", name := "back", desc := "()I" } : MethodName) prog_14_method_43_code (1 : Nat) (Option.some FieldType.int)) ∈ gW := mem_t6 12 (by decide +kernel) (by decide +kernel)
theorem wm_1210 : (Cond.instanceMethod ({ cls := "SmokeRingsModel", name := "back", desc := "()I" } : MethodName)) ∈ gW := mem_t6 10 (by decide +kernel) (by decide +kernel)
theorem wm_1211 : (Cond.selects "SmokeRingsModel" ({ cls := "SmokeRingsModel", name := "back", desc := "()I" } : MethodName) ({ cls := "SmokeRingsModel", name := "back", desc := "()I" } : MethodName)) ∈ gW := mem_t6 11 (by decide +kernel) (by decide +kernel)
theorem mv_RL_60 : sr_MV RL 60 yX12_back cX12_back 1 (some .int) 0 12 := ⟨⟨(RX12, TX12, 32), rfl, rfl⟩, wm_1209, wm_1210, wm_1211, wm_15, wm_1212, ⟨by decide +kernel, by decide +kernel⟩, by decide +kernel, by decide⟩
theorem wm_554 : (Cond.methodLink "SmokeRingsLaw" (61 : Nat) ({ cls := "SmokeRings", name := "read", desc := "(I)I" } : MethodName)) ∈ gW := mem_t3 74 (by decide +kernel) (by decide +kernel)
theorem wm_557 : (Cond.code ({ cls := "SmokeRings", name := "read", desc := "(I)I" } : MethodName) prog_1_method_13_code (10 : Nat) (Option.some FieldType.int)) ∈ gW := mem_t3 77 (by decide +kernel) (by decide +kernel)
theorem wm_555 : (Cond.instanceMethod ({ cls := "SmokeRings", name := "read", desc := "(I)I" } : MethodName)) ∈ gW := mem_t3 75 (by decide +kernel) (by decide +kernel)
theorem wm_556 : (Cond.selects "SmokeRings" ({ cls := "SmokeRings", name := "read", desc := "(I)I" } : MethodName) ({ cls := "SmokeRings", name := "read", desc := "(I)I" } : MethodName)) ∈ gW := mem_t3 76 (by decide +kernel) (by decide +kernel)
theorem mv_RL_61 : sr_MV RL 61 yX11_read cX11_read 10 (some .int) 1 11 := ⟨⟨(RX11, TX11, 13), rfl, rfl⟩, wm_554, wm_555, wm_556, wm_1, wm_557, ⟨by decide +kernel, by decide +kernel⟩, by decide +kernel, by decide⟩
theorem wm_1213 : (Cond.methodLink "SmokeRingsLaw" (64 : Nat) ({ cls := "SmokeRingsModel", name := "read", desc := "(I)I" } : MethodName)) ∈ gW := mem_t6 13 (by decide +kernel) (by decide +kernel)
theorem wm_1216 : (Cond.code ({ cls := "SmokeRingsModel", name := "read", desc := "(I)I" } : MethodName) prog_14_method_44_code (5 : Nat) (Option.some FieldType.int)) ∈ gW := mem_t6 16 (by decide +kernel) (by decide +kernel)
theorem wm_1214 : (Cond.instanceMethod ({ cls := "SmokeRingsModel", name := "read", desc := "(I)I" } : MethodName)) ∈ gW := mem_t6 14 (by decide +kernel) (by decide +kernel)
theorem wm_1215 : (Cond.selects "SmokeRingsModel" ({ cls := "SmokeRingsModel", name := "read", desc := "(I)I" } : MethodName) ({ cls := "SmokeRingsModel", name := "read", desc := "(I)I" } : MethodName)) ∈ gW := mem_t6 15 (by decide +kernel) (by decide +kernel)
theorem mv_RL_64 : sr_MV RL 64 yX12_read cX12_read 5 (some .int) 1 12 := ⟨⟨(RX12, TX12, 32), rfl, rfl⟩, wm_1213, wm_1214, wm_1215, wm_15, wm_1216, ⟨by decide +kernel, by decide +kernel⟩, by decide +kernel, by decide⟩
theorem wm_574 : (Cond.methodLink "SmokeRingsLaw" (65 : Nat) ({ cls := "SmokeRings", name := "at", desc := "(III)I" } : MethodName)) ∈ gW := mem_t3 94 (by decide +kernel) (by decide +kernel)
theorem wm_577 : (Cond.code ({ cls := "SmokeRings", name := "at", desc := "(III)I" } : MethodName) prog_1_method_14_code (4 : Nat) (Option.some FieldType.int)) ∈ gW := mem_t3 97 (by decide +kernel) (by decide +kernel)
theorem wm_575 : (Cond.instanceMethod ({ cls := "SmokeRings", name := "at", desc := "(III)I" } : MethodName)) ∈ gW := mem_t3 95 (by decide +kernel) (by decide +kernel)
theorem wm_576 : (Cond.selects "SmokeRings" ({ cls := "SmokeRings", name := "at", desc := "(III)I" } : MethodName) ({ cls := "SmokeRings", name := "at", desc := "(III)I" } : MethodName)) ∈ gW := mem_t3 96 (by decide +kernel) (by decide +kernel)
theorem mv_RL_65 : sr_MV RL 65 yX11_at cX11_at 4 (some .int) 3 11 := ⟨⟨(RX11, TX11, 13), rfl, rfl⟩, wm_574, wm_575, wm_576, wm_1, wm_577, ⟨by decide +kernel, by decide +kernel⟩, by decide +kernel, by decide⟩
theorem wm_1218 : (Cond.methodLink "SmokeRingsLaw" (69 : Nat) ({ cls := "SmokeRingsModel", name := "at", desc := "(III)I" } : MethodName)) ∈ gW := mem_t6 18 (by decide +kernel) (by decide +kernel)
theorem wm_1221 : (Cond.code ({ cls := "SmokeRingsModel", name := "at", desc := "(III)I" } : MethodName) prog_14_method_57_code (4 : Nat) (Option.some FieldType.int)) ∈ gW := mem_t6 21 (by decide +kernel) (by decide +kernel)
theorem wm_1219 : (Cond.instanceMethod ({ cls := "SmokeRingsModel", name := "at", desc := "(III)I" } : MethodName)) ∈ gW := mem_t6 19 (by decide +kernel) (by decide +kernel)
theorem wm_1220 : (Cond.selects "SmokeRingsModel" ({ cls := "SmokeRingsModel", name := "at", desc := "(III)I" } : MethodName) ({ cls := "SmokeRingsModel", name := "at", desc := "(III)I" } : MethodName)) ∈ gW := mem_t6 20 (by decide +kernel) (by decide +kernel)
theorem mv_RL_69 : sr_MV RL 69 yX12_at cX12_at 4 (some .int) 3 12 := ⟨⟨(RX12, TX12, 32), rfl, rfl⟩, wm_1218, wm_1219, wm_1220, wm_15, wm_1221, ⟨by decide +kernel, by decide +kernel⟩, by decide +kernel, by decide⟩
theorem wm_627 : (Cond.methodLink "SmokeRingsLaw" (70 : Nat) ({ cls := "SmokeRings", name := "bound", desc := "(II)I" } : MethodName)) ∈ gW := mem_t3 147 (by decide +kernel) (by decide +kernel)
theorem wm_630 : (Cond.code ({ cls := "SmokeRings", name := "bound", desc := "(II)I" } : MethodName) prog_1_method_15_code (3 : Nat) (Option.some FieldType.int)) ∈ gW := mem_t3 150 (by decide +kernel) (by decide +kernel)
theorem wm_628 : (Cond.instanceMethod ({ cls := "SmokeRings", name := "bound", desc := "(II)I" } : MethodName)) ∈ gW := mem_t3 148 (by decide +kernel) (by decide +kernel)
theorem wm_629 : (Cond.selects "SmokeRings" ({ cls := "SmokeRings", name := "bound", desc := "(II)I" } : MethodName) ({ cls := "SmokeRings", name := "bound", desc := "(II)I" } : MethodName)) ∈ gW := mem_t3 149 (by decide +kernel) (by decide +kernel)
theorem mv_RL_70 : sr_MV RL 70 yX11_bound cX11_bound 3 (some .int) 2 11 := ⟨⟨(RX11, TX11, 13), rfl, rfl⟩, wm_627, wm_628, wm_629, wm_1, wm_630, ⟨by decide +kernel, by decide +kernel⟩, by decide +kernel, by decide⟩
theorem wm_1277 : (Cond.methodLink "SmokeRingsLaw" (73 : Nat) ({ cls := "SmokeRingsModel", name := "bound", desc := "(II)I" } : MethodName)) ∈ gW := mem_t6 77 (by decide +kernel) (by decide +kernel)
theorem wm_1280 : (Cond.code ({ cls := "SmokeRingsModel", name := "bound", desc := "(II)I" } : MethodName) prog_14_method_60_code (3 : Nat) (Option.some FieldType.int)) ∈ gW := mem_t6 80 (by decide +kernel) (by decide +kernel)
theorem wm_1278 : (Cond.instanceMethod ({ cls := "SmokeRingsModel", name := "bound", desc := "(II)I" } : MethodName)) ∈ gW := mem_t6 78 (by decide +kernel) (by decide +kernel)
theorem wm_1279 : (Cond.selects "SmokeRingsModel" ({ cls := "SmokeRingsModel", name := "bound", desc := "(II)I" } : MethodName) ({ cls := "SmokeRingsModel", name := "bound", desc := "(II)I" } : MethodName)) ∈ gW := mem_t6 79 (by decide +kernel) (by decide +kernel)
theorem mv_RL_73 : sr_MV RL 73 yX12_bound cX12_bound 3 (some .int) 2 12 := ⟨⟨(RX12, TX12, 32), rfl, rfl⟩, wm_1277, wm_1278, wm_1279, wm_15, wm_1280, ⟨by decide +kernel, by decide +kernel⟩, by decide +kernel, by decide⟩
theorem wm_631 : (Cond.methodLink "SmokeRingsLaw" (74 : Nat) ({ cls := "SmokeRings", name := "wed", desc := "(II)I" } : MethodName)) ∈ gW := mem_t3 151 (by decide +kernel) (by decide +kernel)
theorem wm_634 : (Cond.code ({ cls := "SmokeRings", name := "wed", desc := "(II)I" } : MethodName) prog_1_method_16_code (3 : Nat) (Option.some FieldType.int)) ∈ gW := mem_t3 154 (by decide +kernel) (by decide +kernel)
theorem wm_632 : (Cond.instanceMethod ({ cls := "SmokeRings", name := "wed", desc := "(II)I" } : MethodName)) ∈ gW := mem_t3 152 (by decide +kernel) (by decide +kernel)
theorem wm_633 : (Cond.selects "SmokeRings" ({ cls := "SmokeRings", name := "wed", desc := "(II)I" } : MethodName) ({ cls := "SmokeRings", name := "wed", desc := "(II)I" } : MethodName)) ∈ gW := mem_t3 153 (by decide +kernel) (by decide +kernel)
theorem mv_RL_74 : sr_MV RL 74 yX11_wed cX11_wed 3 (some .int) 2 11 := ⟨⟨(RX11, TX11, 13), rfl, rfl⟩, wm_631, wm_632, wm_633, wm_1, wm_634, ⟨by decide +kernel, by decide +kernel⟩, by decide +kernel, by decide⟩
theorem wm_1289 : (Cond.methodLink "SmokeRingsLaw" (77 : Nat) ({ cls := "SmokeRingsModel", name := "wed", desc := "(II)I" } : MethodName)) ∈ gW := mem_t6 89 (by decide +kernel) (by decide +kernel)
theorem wm_1292 : (Cond.code ({ cls := "SmokeRingsModel", name := "wed", desc := "(II)I" } : MethodName) prog_14_method_63_code (3 : Nat) (Option.some FieldType.int)) ∈ gW := mem_t6 92 (by decide +kernel) (by decide +kernel)
theorem wm_1290 : (Cond.instanceMethod ({ cls := "SmokeRingsModel", name := "wed", desc := "(II)I" } : MethodName)) ∈ gW := mem_t6 90 (by decide +kernel) (by decide +kernel)
theorem wm_1291 : (Cond.selects "SmokeRingsModel" ({ cls := "SmokeRingsModel", name := "wed", desc := "(II)I" } : MethodName) ({ cls := "SmokeRingsModel", name := "wed", desc := "(II)I" } : MethodName)) ∈ gW := mem_t6 91 (by decide +kernel) (by decide +kernel)
theorem mv_RL_77 : sr_MV RL 77 yX12_wed cX12_wed 3 (some .int) 2 12 := ⟨⟨(RX12, TX12, 32), rfl, rfl⟩, wm_1289, wm_1290, wm_1291, wm_15, wm_1292, ⟨by decide +kernel, by decide +kernel⟩, by decide +kernel, by decide⟩
theorem wm_647 : (Cond.methodLink "SmokeRingsLaw" (78 : Nat) ({ cls := "SmokeRings", name := "throughs", desc := "(I)I" } : MethodName)) ∈ gW := mem_t3 167 (by decide +kernel) (by decide +kernel)
theorem wm_650 : (Cond.code ({ cls := "SmokeRings", name := "throughs", desc := "(I)I" } : MethodName) prog_1_method_17_code (2 : Nat) (Option.some FieldType.int)) ∈ gW := mem_t3 170 (by decide +kernel) (by decide +kernel)
theorem wm_648 : (Cond.instanceMethod ({ cls := "SmokeRings", name := "throughs", desc := "(I)I" } : MethodName)) ∈ gW := mem_t3 168 (by decide +kernel) (by decide +kernel)
theorem wm_649 : (Cond.selects "SmokeRings" ({ cls := "SmokeRings", name := "throughs", desc := "(I)I" } : MethodName) ({ cls := "SmokeRings", name := "throughs", desc := "(I)I" } : MethodName)) ∈ gW := mem_t3 169 (by decide +kernel) (by decide +kernel)
theorem mv_RL_78 : sr_MV RL 78 yX11_throughs cX11_throughs 2 (some .int) 1 11 := ⟨⟨(RX11, TX11, 13), rfl, rfl⟩, wm_647, wm_648, wm_649, wm_1, wm_650, ⟨by decide +kernel, by decide +kernel⟩, by decide +kernel, by decide⟩
theorem wm_1304 : (Cond.methodLink "SmokeRingsLaw" (81 : Nat) ({ cls := "SmokeRingsModel", name := "throughs", desc := "(I)I" } : MethodName)) ∈ gW := mem_t6 104 (by decide +kernel) (by decide +kernel)
theorem wm_1307 : (Cond.code ({ cls := "SmokeRingsModel", name := "throughs", desc := "(I)I" } : MethodName) prog_14_method_64_code (2 : Nat) (Option.some FieldType.int)) ∈ gW := mem_t6 107 (by decide +kernel) (by decide +kernel)
theorem wm_1305 : (Cond.instanceMethod ({ cls := "SmokeRingsModel", name := "throughs", desc := "(I)I" } : MethodName)) ∈ gW := mem_t6 105 (by decide +kernel) (by decide +kernel)
theorem wm_1306 : (Cond.selects "SmokeRingsModel" ({ cls := "SmokeRingsModel", name := "throughs", desc := "(I)I" } : MethodName) ({ cls := "SmokeRingsModel", name := "throughs", desc := "(I)I" } : MethodName)) ∈ gW := mem_t6 106 (by decide +kernel) (by decide +kernel)
theorem mv_RL_81 : sr_MV RL 81 yX12_throughs cX12_throughs 2 (some .int) 1 12 := ⟨⟨(RX12, TX12, 32), rfl, rfl⟩, wm_1304, wm_1305, wm_1306, wm_15, wm_1307, ⟨by decide +kernel, by decide +kernel⟩, by decide +kernel, by decide⟩
theorem wm_651 : (Cond.methodLink "SmokeRingsLaw" (82 : Nat) ({ cls := "SmokeRings", name := "missed", desc := "()I" } : MethodName)) ∈ gW := mem_t3 171 (by decide +kernel) (by decide +kernel)
theorem mv_RL_82 : sr_MV RL 82 yX11_missed cX11_missed 3 (some .int) 0 11 := ⟨⟨(RX11, TX11, 13), rfl, rfl⟩, wm_651, wm_652, wm_653, wm_1, wm_654, ⟨by decide +kernel, by decide +kernel⟩, by decide +kernel, by decide⟩
theorem wm_1308 : (Cond.methodLink "SmokeRingsLaw" (85 : Nat) ({ cls := "SmokeRingsModel", name := "missed", desc := "()I" } : MethodName)) ∈ gW := mem_t6 108 (by decide +kernel) (by decide +kernel)
theorem wm_1311 : (Cond.code ({ cls := "SmokeRingsModel", name := "missed", desc := "()I" } : MethodName) prog_14_method_66_code (1 : Nat) (Option.some FieldType.int)) ∈ gW := mem_t6 111 (by decide +kernel) (by decide +kernel)
theorem wm_1309 : (Cond.instanceMethod ({ cls := "SmokeRingsModel", name := "missed", desc := "()I" } : MethodName)) ∈ gW := mem_t6 109 (by decide +kernel) (by decide +kernel)
theorem wm_1310 : (Cond.selects "SmokeRingsModel" ({ cls := "SmokeRingsModel", name := "missed", desc := "()I" } : MethodName) ({ cls := "SmokeRingsModel", name := "missed", desc := "()I" } : MethodName)) ∈ gW := mem_t6 110 (by decide +kernel) (by decide +kernel)
theorem mv_RL_85 : sr_MV RL 85 yX12_missed cX12_missed 1 (some .int) 0 12 := ⟨⟨(RX12, TX12, 32), rfl, rfl⟩, wm_1308, wm_1309, wm_1310, wm_15, wm_1311, ⟨by decide +kernel, by decide +kernel⟩, by decide +kernel, by decide⟩
theorem wm_655 : (Cond.methodLink "SmokeRingsLaw" (86 : Nat) ({ cls := "SmokeRings", name := "richest", desc := "()I" } : MethodName)) ∈ gW := mem_t3 175 (by decide +kernel) (by decide +kernel)
theorem mv_RL_86 : sr_MV RL 86 yX11_richest cX11_richest 5 (some .int) 0 11 := ⟨⟨(RX11, TX11, 13), rfl, rfl⟩, wm_655, wm_656, wm_657, wm_1, wm_658, ⟨by decide +kernel, by decide +kernel⟩, by decide +kernel, by decide⟩
theorem wm_1316 : (Cond.methodLink "SmokeRingsLaw" (89 : Nat) ({ cls := "SmokeRingsModel", name := "richest", desc := "()I" } : MethodName)) ∈ gW := mem_t6 116 (by decide +kernel) (by decide +kernel)
theorem wm_1319 : (Cond.code ({ cls := "SmokeRingsModel", name := "richest", desc := "()I" } : MethodName) prog_14_method_68_code (1 : Nat) (Option.some FieldType.int)) ∈ gW := mem_t6 119 (by decide +kernel) (by decide +kernel)
theorem wm_1317 : (Cond.instanceMethod ({ cls := "SmokeRingsModel", name := "richest", desc := "()I" } : MethodName)) ∈ gW := mem_t6 117 (by decide +kernel) (by decide +kernel)
theorem wm_1318 : (Cond.selects "SmokeRingsModel" ({ cls := "SmokeRingsModel", name := "richest", desc := "()I" } : MethodName) ({ cls := "SmokeRingsModel", name := "richest", desc := "()I" } : MethodName)) ∈ gW := mem_t6 118 (by decide +kernel) (by decide +kernel)
theorem mv_RL_89 : sr_MV RL 89 yX12_richest cX12_richest 1 (some .int) 0 12 := ⟨⟨(RX12, TX12, 32), rfl, rfl⟩, wm_1316, wm_1317, wm_1318, wm_15, wm_1319, ⟨by decide +kernel, by decide +kernel⟩, by decide +kernel, by decide⟩
theorem wm_665 : (Cond.methodLink "SmokeRingsLaw" (90 : Nat) ({ cls := "SmokeRings", name := "lonely", desc := "()I" } : MethodName)) ∈ gW := mem_t3 185 (by decide +kernel) (by decide +kernel)
theorem mv_RL_90 : sr_MV RL 90 yX11_lonely cX11_lonely 4 (some .int) 0 11 := ⟨⟨(RX11, TX11, 13), rfl, rfl⟩, wm_665, wm_666, wm_667, wm_1, wm_668, ⟨by decide +kernel, by decide +kernel⟩, by decide +kernel, by decide⟩
theorem wm_1330 : (Cond.methodLink "SmokeRingsLaw" (93 : Nat) ({ cls := "SmokeRingsModel", name := "lonely", desc := "()I" } : MethodName)) ∈ gW := mem_t6 130 (by decide +kernel) (by decide +kernel)
theorem wm_1333 : (Cond.code ({ cls := "SmokeRingsModel", name := "lonely", desc := "()I" } : MethodName) prog_14_method_70_code (1 : Nat) (Option.some FieldType.int)) ∈ gW := mem_t6 133 (by decide +kernel) (by decide +kernel)
theorem wm_1331 : (Cond.instanceMethod ({ cls := "SmokeRingsModel", name := "lonely", desc := "()I" } : MethodName)) ∈ gW := mem_t6 131 (by decide +kernel) (by decide +kernel)
theorem wm_1332 : (Cond.selects "SmokeRingsModel" ({ cls := "SmokeRingsModel", name := "lonely", desc := "()I" } : MethodName) ({ cls := "SmokeRingsModel", name := "lonely", desc := "()I" } : MethodName)) ∈ gW := mem_t6 132 (by decide +kernel) (by decide +kernel)
theorem mv_RL_93 : sr_MV RL 93 yX12_lonely cX12_lonely 1 (some .int) 0 12 := ⟨⟨(RX12, TX12, 32), rfl, rfl⟩, wm_1330, wm_1331, wm_1332, wm_15, wm_1333, ⟨by decide +kernel, by decide +kernel⟩, by decide +kernel, by decide⟩
theorem wm_669 : (Cond.methodLink "SmokeRingsLaw" (94 : Nat) ({ cls := "SmokeRings", name := "breath", desc := "(II)I" } : MethodName)) ∈ gW := mem_t3 189 (by decide +kernel) (by decide +kernel)
theorem wm_672 : (Cond.code ({ cls := "SmokeRings", name := "breath", desc := "(II)I" } : MethodName) prog_1_method_21_code (3 : Nat) (Option.some FieldType.int)) ∈ gW := mem_t3 192 (by decide +kernel) (by decide +kernel)
theorem wm_670 : (Cond.instanceMethod ({ cls := "SmokeRings", name := "breath", desc := "(II)I" } : MethodName)) ∈ gW := mem_t3 190 (by decide +kernel) (by decide +kernel)
theorem wm_671 : (Cond.selects "SmokeRings" ({ cls := "SmokeRings", name := "breath", desc := "(II)I" } : MethodName) ({ cls := "SmokeRings", name := "breath", desc := "(II)I" } : MethodName)) ∈ gW := mem_t3 191 (by decide +kernel) (by decide +kernel)
theorem mv_RL_94 : sr_MV RL 94 yX11_breath cX11_breath 3 (some .int) 2 11 := ⟨⟨(RX11, TX11, 13), rfl, rfl⟩, wm_669, wm_670, wm_671, wm_1, wm_672, ⟨by decide +kernel, by decide +kernel⟩, by decide +kernel, by decide⟩
theorem wm_1338 : (Cond.methodLink "SmokeRingsLaw" (97 : Nat) ({ cls := "SmokeRingsModel", name := "breath", desc := "(II)I" } : MethodName)) ∈ gW := mem_t6 138 (by decide +kernel) (by decide +kernel)
theorem wm_1341 : (Cond.code ({ cls := "SmokeRingsModel", name := "breath", desc := "(II)I" } : MethodName) prog_14_method_73_code (3 : Nat) (Option.some FieldType.int)) ∈ gW := mem_t6 141 (by decide +kernel) (by decide +kernel)
theorem wm_1339 : (Cond.instanceMethod ({ cls := "SmokeRingsModel", name := "breath", desc := "(II)I" } : MethodName)) ∈ gW := mem_t6 139 (by decide +kernel) (by decide +kernel)
theorem wm_1340 : (Cond.selects "SmokeRingsModel" ({ cls := "SmokeRingsModel", name := "breath", desc := "(II)I" } : MethodName) ({ cls := "SmokeRingsModel", name := "breath", desc := "(II)I" } : MethodName)) ∈ gW := mem_t6 140 (by decide +kernel) (by decide +kernel)
theorem mv_RL_97 : sr_MV RL 97 yX12_breath cX12_breath 3 (some .int) 2 12 := ⟨⟨(RX12, TX12, 32), rfl, rfl⟩, wm_1338, wm_1339, wm_1340, wm_15, wm_1341, ⟨by decide +kernel, by decide +kernel⟩, by decide +kernel, by decide⟩
theorem wm_690 : (Cond.methodLink "SmokeRingsLaw" (98 : Nat) ({ cls := "SmokeRings", name := "aim", desc := "(II)I" } : MethodName)) ∈ gW := mem_t3 210 (by decide +kernel) (by decide +kernel)
theorem wm_693 : (Cond.code ({ cls := "SmokeRings", name := "aim", desc := "(II)I" } : MethodName) prog_1_method_22_code (3 : Nat) (Option.some FieldType.int)) ∈ gW := mem_t3 213 (by decide +kernel) (by decide +kernel)
theorem wm_691 : (Cond.instanceMethod ({ cls := "SmokeRings", name := "aim", desc := "(II)I" } : MethodName)) ∈ gW := mem_t3 211 (by decide +kernel) (by decide +kernel)
theorem wm_692 : (Cond.selects "SmokeRings" ({ cls := "SmokeRings", name := "aim", desc := "(II)I" } : MethodName) ({ cls := "SmokeRings", name := "aim", desc := "(II)I" } : MethodName)) ∈ gW := mem_t3 212 (by decide +kernel) (by decide +kernel)
theorem mv_RL_98 : sr_MV RL 98 yX11_aim cX11_aim 3 (some .int) 2 11 := ⟨⟨(RX11, TX11, 13), rfl, rfl⟩, wm_690, wm_691, wm_692, wm_1, wm_693, ⟨by decide +kernel, by decide +kernel⟩, by decide +kernel, by decide⟩
theorem wm_1346 : (Cond.methodLink "SmokeRingsLaw" (101 : Nat) ({ cls := "SmokeRingsModel", name := "aim", desc := "(II)I" } : MethodName)) ∈ gW := mem_t6 146 (by decide +kernel) (by decide +kernel)
theorem wm_1349 : (Cond.code ({ cls := "SmokeRingsModel", name := "aim", desc := "(II)I" } : MethodName) prog_14_method_75_code (3 : Nat) (Option.some FieldType.int)) ∈ gW := mem_t6 149 (by decide +kernel) (by decide +kernel)
theorem wm_1347 : (Cond.instanceMethod ({ cls := "SmokeRingsModel", name := "aim", desc := "(II)I" } : MethodName)) ∈ gW := mem_t6 147 (by decide +kernel) (by decide +kernel)
theorem wm_1348 : (Cond.selects "SmokeRingsModel" ({ cls := "SmokeRingsModel", name := "aim", desc := "(II)I" } : MethodName) ({ cls := "SmokeRingsModel", name := "aim", desc := "(II)I" } : MethodName)) ∈ gW := mem_t6 148 (by decide +kernel) (by decide +kernel)
theorem mv_RL_101 : sr_MV RL 101 yX12_aim cX12_aim 3 (some .int) 2 12 := ⟨⟨(RX12, TX12, 32), rfl, rfl⟩, wm_1346, wm_1347, wm_1348, wm_15, wm_1349, ⟨by decide +kernel, by decide +kernel⟩, by decide +kernel, by decide⟩
theorem wm_698 : (Cond.methodLink "SmokeRingsLaw" (102 : Nat) ({ cls := "SmokeRings", name := "stand", desc := "(I)I" } : MethodName)) ∈ gW := mem_t3 218 (by decide +kernel) (by decide +kernel)
theorem wm_701 : (Cond.code ({ cls := "SmokeRings", name := "stand", desc := "(I)I" } : MethodName) prog_1_method_23_code (2 : Nat) (Option.some FieldType.int)) ∈ gW := mem_t3 221 (by decide +kernel) (by decide +kernel)
theorem wm_699 : (Cond.instanceMethod ({ cls := "SmokeRings", name := "stand", desc := "(I)I" } : MethodName)) ∈ gW := mem_t3 219 (by decide +kernel) (by decide +kernel)
theorem wm_700 : (Cond.selects "SmokeRings" ({ cls := "SmokeRings", name := "stand", desc := "(I)I" } : MethodName) ({ cls := "SmokeRings", name := "stand", desc := "(I)I" } : MethodName)) ∈ gW := mem_t3 220 (by decide +kernel) (by decide +kernel)
theorem mv_RL_102 : sr_MV RL 102 yX11_stand cX11_stand 2 (some .int) 1 11 := ⟨⟨(RX11, TX11, 13), rfl, rfl⟩, wm_698, wm_699, wm_700, wm_1, wm_701, ⟨by decide +kernel, by decide +kernel⟩, by decide +kernel, by decide⟩
theorem wm_1358 : (Cond.methodLink "SmokeRingsLaw" (105 : Nat) ({ cls := "SmokeRingsModel", name := "stand", desc := "(I)I" } : MethodName)) ∈ gW := mem_t6 158 (by decide +kernel) (by decide +kernel)
theorem wm_1361 : (Cond.code ({ cls := "SmokeRingsModel", name := "stand", desc := "(I)I" } : MethodName) prog_14_method_77_code (2 : Nat) (Option.some FieldType.int)) ∈ gW := mem_t6 161 (by decide +kernel) (by decide +kernel)
theorem wm_1359 : (Cond.instanceMethod ({ cls := "SmokeRingsModel", name := "stand", desc := "(I)I" } : MethodName)) ∈ gW := mem_t6 159 (by decide +kernel) (by decide +kernel)
theorem wm_1360 : (Cond.selects "SmokeRingsModel" ({ cls := "SmokeRingsModel", name := "stand", desc := "(I)I" } : MethodName) ({ cls := "SmokeRingsModel", name := "stand", desc := "(I)I" } : MethodName)) ∈ gW := mem_t6 160 (by decide +kernel) (by decide +kernel)
theorem mv_RL_105 : sr_MV RL 105 yX12_stand cX12_stand 2 (some .int) 1 12 := ⟨⟨(RX12, TX12, 32), rfl, rfl⟩, wm_1358, wm_1359, wm_1360, wm_15, wm_1361, ⟨by decide +kernel, by decide +kernel⟩, by decide +kernel, by decide⟩
theorem wm_711 : (Cond.methodLink "SmokeRingsLaw" (106 : Nat) ({ cls := "SmokeRings", name := "hush", desc := "(II)I" } : MethodName)) ∈ gW := mem_t3 231 (by decide +kernel) (by decide +kernel)
theorem wm_714 : (Cond.code ({ cls := "SmokeRings", name := "hush", desc := "(II)I" } : MethodName) prog_1_method_24_code (3 : Nat) (Option.some FieldType.int)) ∈ gW := mem_t3 234 (by decide +kernel) (by decide +kernel)
theorem wm_712 : (Cond.instanceMethod ({ cls := "SmokeRings", name := "hush", desc := "(II)I" } : MethodName)) ∈ gW := mem_t3 232 (by decide +kernel) (by decide +kernel)
theorem wm_713 : (Cond.selects "SmokeRings" ({ cls := "SmokeRings", name := "hush", desc := "(II)I" } : MethodName) ({ cls := "SmokeRings", name := "hush", desc := "(II)I" } : MethodName)) ∈ gW := mem_t3 233 (by decide +kernel) (by decide +kernel)
theorem mv_RL_106 : sr_MV RL 106 yX11_hush cX11_hush 3 (some .int) 2 11 := ⟨⟨(RX11, TX11, 13), rfl, rfl⟩, wm_711, wm_712, wm_713, wm_1, wm_714, ⟨by decide +kernel, by decide +kernel⟩, by decide +kernel, by decide⟩
theorem wm_1366 : (Cond.methodLink "SmokeRingsLaw" (109 : Nat) ({ cls := "SmokeRingsModel", name := "hush", desc := "(II)I" } : MethodName)) ∈ gW := mem_t6 166 (by decide +kernel) (by decide +kernel)
theorem wm_1369 : (Cond.code ({ cls := "SmokeRingsModel", name := "hush", desc := "(II)I" } : MethodName) prog_14_method_80_code (3 : Nat) (Option.some FieldType.int)) ∈ gW := mem_t6 169 (by decide +kernel) (by decide +kernel)
theorem wm_1367 : (Cond.instanceMethod ({ cls := "SmokeRingsModel", name := "hush", desc := "(II)I" } : MethodName)) ∈ gW := mem_t6 167 (by decide +kernel) (by decide +kernel)
theorem wm_1368 : (Cond.selects "SmokeRingsModel" ({ cls := "SmokeRingsModel", name := "hush", desc := "(II)I" } : MethodName) ({ cls := "SmokeRingsModel", name := "hush", desc := "(II)I" } : MethodName)) ∈ gW := mem_t6 168 (by decide +kernel) (by decide +kernel)
theorem mv_RL_109 : sr_MV RL 109 yX12_hush cX12_hush 3 (some .int) 2 12 := ⟨⟨(RX12, TX12, 32), rfl, rfl⟩, wm_1366, wm_1367, wm_1368, wm_15, wm_1369, ⟨by decide +kernel, by decide +kernel⟩, by decide +kernel, by decide⟩
theorem wm_727 : (Cond.methodLink "SmokeRingsLaw" (110 : Nat) ({ cls := "SmokeRings", name := "calm", desc := "(I)I" } : MethodName)) ∈ gW := mem_t4 7 (by decide +kernel) (by decide +kernel)
theorem wm_730 : (Cond.code ({ cls := "SmokeRings", name := "calm", desc := "(I)I" } : MethodName) prog_1_method_25_code (2 : Nat) (Option.some FieldType.int)) ∈ gW := mem_t4 10 (by decide +kernel) (by decide +kernel)
theorem wm_728 : (Cond.instanceMethod ({ cls := "SmokeRings", name := "calm", desc := "(I)I" } : MethodName)) ∈ gW := mem_t4 8 (by decide +kernel) (by decide +kernel)
theorem wm_729 : (Cond.selects "SmokeRings" ({ cls := "SmokeRings", name := "calm", desc := "(I)I" } : MethodName) ({ cls := "SmokeRings", name := "calm", desc := "(I)I" } : MethodName)) ∈ gW := mem_t4 9 (by decide +kernel) (by decide +kernel)
theorem mv_RL_110 : sr_MV RL 110 yX11_calm cX11_calm 2 (some .int) 1 11 := ⟨⟨(RX11, TX11, 13), rfl, rfl⟩, wm_727, wm_728, wm_729, wm_1, wm_730, ⟨by decide +kernel, by decide +kernel⟩, by decide +kernel, by decide⟩
theorem wm_1379 : (Cond.methodLink "SmokeRingsLaw" (113 : Nat) ({ cls := "SmokeRingsModel", name := "calm", desc := "(I)I" } : MethodName)) ∈ gW := mem_t6 179 (by decide +kernel) (by decide +kernel)
theorem wm_1382 : (Cond.code ({ cls := "SmokeRingsModel", name := "calm", desc := "(I)I" } : MethodName) prog_14_method_82_code (2 : Nat) (Option.some FieldType.int)) ∈ gW := mem_t6 182 (by decide +kernel) (by decide +kernel)
theorem wm_1380 : (Cond.instanceMethod ({ cls := "SmokeRingsModel", name := "calm", desc := "(I)I" } : MethodName)) ∈ gW := mem_t6 180 (by decide +kernel) (by decide +kernel)
theorem wm_1381 : (Cond.selects "SmokeRingsModel" ({ cls := "SmokeRingsModel", name := "calm", desc := "(I)I" } : MethodName) ({ cls := "SmokeRingsModel", name := "calm", desc := "(I)I" } : MethodName)) ∈ gW := mem_t6 181 (by decide +kernel) (by decide +kernel)
theorem mv_RL_113 : sr_MV RL 113 yX12_calm cX12_calm 2 (some .int) 1 12 := ⟨⟨(RX12, TX12, 32), rfl, rfl⟩, wm_1379, wm_1380, wm_1381, wm_15, wm_1382, ⟨by decide +kernel, by decide +kernel⟩, by decide +kernel, by decide⟩
theorem wm_735 : (Cond.methodLink "SmokeRingsLaw" (114 : Nat) ({ cls := "SmokeRings", name := "free", desc := "(III)I" } : MethodName)) ∈ gW := mem_t4 15 (by decide +kernel) (by decide +kernel)
theorem wm_738 : (Cond.code ({ cls := "SmokeRings", name := "free", desc := "(III)I" } : MethodName) prog_1_method_26_code (4 : Nat) (Option.some FieldType.int)) ∈ gW := mem_t4 18 (by decide +kernel) (by decide +kernel)
theorem wm_736 : (Cond.instanceMethod ({ cls := "SmokeRings", name := "free", desc := "(III)I" } : MethodName)) ∈ gW := mem_t4 16 (by decide +kernel) (by decide +kernel)
theorem wm_737 : (Cond.selects "SmokeRings" ({ cls := "SmokeRings", name := "free", desc := "(III)I" } : MethodName) ({ cls := "SmokeRings", name := "free", desc := "(III)I" } : MethodName)) ∈ gW := mem_t4 17 (by decide +kernel) (by decide +kernel)
theorem mv_RL_114 : sr_MV RL 114 yX11_free cX11_free 4 (some .int) 3 11 := ⟨⟨(RX11, TX11, 13), rfl, rfl⟩, wm_735, wm_736, wm_737, wm_1, wm_738, ⟨by decide +kernel, by decide +kernel⟩, by decide +kernel, by decide⟩
theorem wm_1387 : (Cond.methodLink "SmokeRingsLaw" (117 : Nat) ({ cls := "SmokeRingsModel", name := "free", desc := "(III)I" } : MethodName)) ∈ gW := mem_t6 187 (by decide +kernel) (by decide +kernel)
theorem wm_1390 : (Cond.code ({ cls := "SmokeRingsModel", name := "free", desc := "(III)I" } : MethodName) prog_14_method_85_code (4 : Nat) (Option.some FieldType.int)) ∈ gW := mem_t6 190 (by decide +kernel) (by decide +kernel)
theorem wm_1388 : (Cond.instanceMethod ({ cls := "SmokeRingsModel", name := "free", desc := "(III)I" } : MethodName)) ∈ gW := mem_t6 188 (by decide +kernel) (by decide +kernel)
theorem wm_1389 : (Cond.selects "SmokeRingsModel" ({ cls := "SmokeRingsModel", name := "free", desc := "(III)I" } : MethodName) ({ cls := "SmokeRingsModel", name := "free", desc := "(III)I" } : MethodName)) ∈ gW := mem_t6 189 (by decide +kernel) (by decide +kernel)
theorem mv_RL_117 : sr_MV RL 117 yX12_free cX12_free 4 (some .int) 3 12 := ⟨⟨(RX12, TX12, 32), rfl, rfl⟩, wm_1387, wm_1388, wm_1389, wm_15, wm_1390, ⟨by decide +kernel, by decide +kernel⟩, by decide +kernel, by decide⟩
theorem wm_746 : (Cond.methodLink "SmokeRingsLaw" (118 : Nat) ({ cls := "SmokeRings", name := "seen", desc := "(II)I" } : MethodName)) ∈ gW := mem_t4 26 (by decide +kernel) (by decide +kernel)
theorem wm_749 : (Cond.code ({ cls := "SmokeRings", name := "seen", desc := "(II)I" } : MethodName) prog_1_method_27_code (3 : Nat) (Option.some FieldType.int)) ∈ gW := mem_t4 29 (by decide +kernel) (by decide +kernel)
theorem wm_747 : (Cond.instanceMethod ({ cls := "SmokeRings", name := "seen", desc := "(II)I" } : MethodName)) ∈ gW := mem_t4 27 (by decide +kernel) (by decide +kernel)
theorem wm_748 : (Cond.selects "SmokeRings" ({ cls := "SmokeRings", name := "seen", desc := "(II)I" } : MethodName) ({ cls := "SmokeRings", name := "seen", desc := "(II)I" } : MethodName)) ∈ gW := mem_t4 28 (by decide +kernel) (by decide +kernel)
theorem mv_RL_118 : sr_MV RL 118 yX11_seen cX11_seen 3 (some .int) 2 11 := ⟨⟨(RX11, TX11, 13), rfl, rfl⟩, wm_746, wm_747, wm_748, wm_1, wm_749, ⟨by decide +kernel, by decide +kernel⟩, by decide +kernel, by decide⟩
theorem wm_1400 : (Cond.methodLink "SmokeRingsLaw" (121 : Nat) ({ cls := "SmokeRingsModel", name := "seen", desc := "(II)I" } : MethodName)) ∈ gW := mem_t6 200 (by decide +kernel) (by decide +kernel)
theorem wm_1403 : (Cond.code ({ cls := "SmokeRingsModel", name := "seen", desc := "(II)I" } : MethodName) prog_14_method_86_code (3 : Nat) (Option.some FieldType.int)) ∈ gW := mem_t6 203 (by decide +kernel) (by decide +kernel)
theorem wm_1401 : (Cond.instanceMethod ({ cls := "SmokeRingsModel", name := "seen", desc := "(II)I" } : MethodName)) ∈ gW := mem_t6 201 (by decide +kernel) (by decide +kernel)
theorem wm_1402 : (Cond.selects "SmokeRingsModel" ({ cls := "SmokeRingsModel", name := "seen", desc := "(II)I" } : MethodName) ({ cls := "SmokeRingsModel", name := "seen", desc := "(II)I" } : MethodName)) ∈ gW := mem_t6 202 (by decide +kernel) (by decide +kernel)
theorem mv_RL_121 : sr_MV RL 121 yX12_seen cX12_seen 3 (some .int) 2 12 := ⟨⟨(RX12, TX12, 32), rfl, rfl⟩, wm_1400, wm_1401, wm_1402, wm_15, wm_1403, ⟨by decide +kernel, by decide +kernel⟩, by decide +kernel, by decide⟩
theorem wm_754 : (Cond.methodLink "SmokeRingsLaw" (122 : Nat) ({ cls := "SmokeRings", name := "forget", desc := "()I" } : MethodName)) ∈ gW := mem_t4 34 (by decide +kernel) (by decide +kernel)
theorem wm_757 : (Cond.code ({ cls := "SmokeRings", name := "forget", desc := "()I" } : MethodName) prog_1_method_28_code (2 : Nat) (Option.some FieldType.int)) ∈ gW := mem_t4 37 (by decide +kernel) (by decide +kernel)
theorem wm_755 : (Cond.instanceMethod ({ cls := "SmokeRings", name := "forget", desc := "()I" } : MethodName)) ∈ gW := mem_t4 35 (by decide +kernel) (by decide +kernel)
theorem wm_756 : (Cond.selects "SmokeRings" ({ cls := "SmokeRings", name := "forget", desc := "()I" } : MethodName) ({ cls := "SmokeRings", name := "forget", desc := "()I" } : MethodName)) ∈ gW := mem_t4 36 (by decide +kernel) (by decide +kernel)
theorem mv_RL_122 : sr_MV RL 122 yX11_forget cX11_forget 2 (some .int) 0 11 := ⟨⟨(RX11, TX11, 13), rfl, rfl⟩, wm_754, wm_755, wm_756, wm_1, wm_757, ⟨by decide +kernel, by decide +kernel⟩, by decide +kernel, by decide⟩
theorem wm_1405 : (Cond.methodLink "SmokeRingsLaw" (125 : Nat) ({ cls := "SmokeRingsModel", name := "forget", desc := "()I" } : MethodName)) ∈ gW := mem_t6 205 (by decide +kernel) (by decide +kernel)
theorem wm_1408 : (Cond.code ({ cls := "SmokeRingsModel", name := "forget", desc := "()I" } : MethodName) prog_14_method_87_code (2 : Nat) (Option.some FieldType.int)) ∈ gW := mem_t6 208 (by decide +kernel) (by decide +kernel)
theorem wm_1406 : (Cond.instanceMethod ({ cls := "SmokeRingsModel", name := "forget", desc := "()I" } : MethodName)) ∈ gW := mem_t6 206 (by decide +kernel) (by decide +kernel)
theorem wm_1407 : (Cond.selects "SmokeRingsModel" ({ cls := "SmokeRingsModel", name := "forget", desc := "()I" } : MethodName) ({ cls := "SmokeRingsModel", name := "forget", desc := "()I" } : MethodName)) ∈ gW := mem_t6 207 (by decide +kernel) (by decide +kernel)
theorem mv_RL_125 : sr_MV RL 125 yX12_forget cX12_forget 2 (some .int) 0 12 := ⟨⟨(RX12, TX12, 32), rfl, rfl⟩, wm_1405, wm_1406, wm_1407, wm_15, wm_1408, ⟨by decide +kernel, by decide +kernel⟩, by decide +kernel, by decide⟩
theorem wm_758 : (Cond.methodLink "SmokeRingsLaw" (126 : Nat) ({ cls := "SmokeRings", name := "never", desc := "()I" } : MethodName)) ∈ gW := mem_t4 38 (by decide +kernel) (by decide +kernel)
theorem wm_761 : (Cond.code ({ cls := "SmokeRings", name := "never", desc := "()I" } : MethodName) prog_1_method_29_code (1 : Nat) (Option.some FieldType.int)) ∈ gW := mem_t4 41 (by decide +kernel) (by decide +kernel)
theorem wm_759 : (Cond.instanceMethod ({ cls := "SmokeRings", name := "never", desc := "()I" } : MethodName)) ∈ gW := mem_t4 39 (by decide +kernel) (by decide +kernel)
theorem wm_760 : (Cond.selects "SmokeRings" ({ cls := "SmokeRings", name := "never", desc := "()I" } : MethodName) ({ cls := "SmokeRings", name := "never", desc := "()I" } : MethodName)) ∈ gW := mem_t4 40 (by decide +kernel) (by decide +kernel)
theorem mv_RL_126 : sr_MV RL 126 yX11_never cX11_never 1 (some .int) 0 11 := ⟨⟨(RX11, TX11, 13), rfl, rfl⟩, wm_758, wm_759, wm_760, wm_1, wm_761, ⟨by decide +kernel, by decide +kernel⟩, by decide +kernel, by decide⟩
theorem wm_1409 : (Cond.methodLink "SmokeRingsLaw" (129 : Nat) ({ cls := "SmokeRingsModel", name := "never", desc := "()I" } : MethodName)) ∈ gW := mem_t6 209 (by decide +kernel) (by decide +kernel)
theorem wm_1412 : (Cond.code ({ cls := "SmokeRingsModel", name := "never", desc := "()I" } : MethodName) prog_14_method_90_code (1 : Nat) (Option.some FieldType.int)) ∈ gW := mem_t6 212 (by decide +kernel) (by decide +kernel)
theorem wm_1410 : (Cond.instanceMethod ({ cls := "SmokeRingsModel", name := "never", desc := "()I" } : MethodName)) ∈ gW := mem_t6 210 (by decide +kernel) (by decide +kernel)
theorem wm_1411 : (Cond.selects "SmokeRingsModel" ({ cls := "SmokeRingsModel", name := "never", desc := "()I" } : MethodName) ({ cls := "SmokeRingsModel", name := "never", desc := "()I" } : MethodName)) ∈ gW := mem_t6 211 (by decide +kernel) (by decide +kernel)
theorem mv_RL_129 : sr_MV RL 129 yX12_never cX12_never 1 (some .int) 0 12 := ⟨⟨(RX12, TX12, 32), rfl, rfl⟩, wm_1409, wm_1410, wm_1411, wm_15, wm_1412, ⟨by decide +kernel, by decide +kernel⟩, by decide +kernel, by decide⟩
theorem wm_780 : (Cond.methodLink "SmokeRingsLaw" (130 : Nat) ({ cls := "SmokeRings", name := "whence", desc := "(II)I" } : MethodName)) ∈ gW := mem_t4 60 (by decide +kernel) (by decide +kernel)
theorem wm_783 : (Cond.code ({ cls := "SmokeRings", name := "whence", desc := "(II)I" } : MethodName) prog_1_method_30_code (3 : Nat) (Option.some FieldType.int)) ∈ gW := mem_t4 63 (by decide +kernel) (by decide +kernel)
theorem wm_781 : (Cond.instanceMethod ({ cls := "SmokeRings", name := "whence", desc := "(II)I" } : MethodName)) ∈ gW := mem_t4 61 (by decide +kernel) (by decide +kernel)
theorem wm_782 : (Cond.selects "SmokeRings" ({ cls := "SmokeRings", name := "whence", desc := "(II)I" } : MethodName) ({ cls := "SmokeRings", name := "whence", desc := "(II)I" } : MethodName)) ∈ gW := mem_t4 62 (by decide +kernel) (by decide +kernel)
theorem mv_RL_130 : sr_MV RL 130 yX11_whence cX11_whence 3 (some .int) 2 11 := ⟨⟨(RX11, TX11, 13), rfl, rfl⟩, wm_780, wm_781, wm_782, wm_1, wm_783, ⟨by decide +kernel, by decide +kernel⟩, by decide +kernel, by decide⟩
theorem wm_1421 : (Cond.methodLink "SmokeRingsLaw" (133 : Nat) ({ cls := "SmokeRingsModel", name := "whence", desc := "(II)I" } : MethodName)) ∈ gW := mem_t6 221 (by decide +kernel) (by decide +kernel)
theorem wm_1424 : (Cond.code ({ cls := "SmokeRingsModel", name := "whence", desc := "(II)I" } : MethodName) prog_14_method_92_code (3 : Nat) (Option.some FieldType.int)) ∈ gW := mem_t6 224 (by decide +kernel) (by decide +kernel)
theorem wm_1422 : (Cond.instanceMethod ({ cls := "SmokeRingsModel", name := "whence", desc := "(II)I" } : MethodName)) ∈ gW := mem_t6 222 (by decide +kernel) (by decide +kernel)
theorem wm_1423 : (Cond.selects "SmokeRingsModel" ({ cls := "SmokeRingsModel", name := "whence", desc := "(II)I" } : MethodName) ({ cls := "SmokeRingsModel", name := "whence", desc := "(II)I" } : MethodName)) ∈ gW := mem_t6 223 (by decide +kernel) (by decide +kernel)
theorem mv_RL_133 : sr_MV RL 133 yX12_whence cX12_whence 3 (some .int) 2 12 := ⟨⟨(RX12, TX12, 32), rfl, rfl⟩, wm_1421, wm_1422, wm_1423, wm_15, wm_1424, ⟨by decide +kernel, by decide +kernel⟩, by decide +kernel, by decide⟩
theorem wm_798 : (Cond.methodLink "SmokeRingsLaw" (134 : Nat) ({ cls := "SmokeRings", name := "paces", desc := "()I" } : MethodName)) ∈ gW := mem_t4 78 (by decide +kernel) (by decide +kernel)
theorem wm_801 : (Cond.code ({ cls := "SmokeRings", name := "paces", desc := "()I" } : MethodName) prog_1_method_31_code (1 : Nat) (Option.some FieldType.int)) ∈ gW := mem_t4 81 (by decide +kernel) (by decide +kernel)
theorem wm_799 : (Cond.instanceMethod ({ cls := "SmokeRings", name := "paces", desc := "()I" } : MethodName)) ∈ gW := mem_t4 79 (by decide +kernel) (by decide +kernel)
theorem wm_800 : (Cond.selects "SmokeRings" ({ cls := "SmokeRings", name := "paces", desc := "()I" } : MethodName) ({ cls := "SmokeRings", name := "paces", desc := "()I" } : MethodName)) ∈ gW := mem_t4 80 (by decide +kernel) (by decide +kernel)
theorem mv_RL_134 : sr_MV RL 134 yX11_paces cX11_paces 1 (some .int) 0 11 := ⟨⟨(RX11, TX11, 13), rfl, rfl⟩, wm_798, wm_799, wm_800, wm_1, wm_801, ⟨by decide +kernel, by decide +kernel⟩, by decide +kernel, by decide⟩
theorem wm_1429 : (Cond.methodLink "SmokeRingsLaw" (137 : Nat) ({ cls := "SmokeRingsModel", name := "paces", desc := "()I" } : MethodName)) ∈ gW := mem_t6 229 (by decide +kernel) (by decide +kernel)
theorem wm_1432 : (Cond.code ({ cls := "SmokeRingsModel", name := "paces", desc := "()I" } : MethodName) prog_14_method_94_code (1 : Nat) (Option.some FieldType.int)) ∈ gW := mem_t6 232 (by decide +kernel) (by decide +kernel)
theorem wm_1430 : (Cond.instanceMethod ({ cls := "SmokeRingsModel", name := "paces", desc := "()I" } : MethodName)) ∈ gW := mem_t6 230 (by decide +kernel) (by decide +kernel)
theorem wm_1431 : (Cond.selects "SmokeRingsModel" ({ cls := "SmokeRingsModel", name := "paces", desc := "()I" } : MethodName) ({ cls := "SmokeRingsModel", name := "paces", desc := "()I" } : MethodName)) ∈ gW := mem_t6 231 (by decide +kernel) (by decide +kernel)
theorem mv_RL_137 : sr_MV RL 137 yX12_paces cX12_paces 1 (some .int) 0 12 := ⟨⟨(RX12, TX12, 32), rfl, rfl⟩, wm_1429, wm_1430, wm_1431, wm_15, wm_1432, ⟨by decide +kernel, by decide +kernel⟩, by decide +kernel, by decide⟩
theorem wm_806 : (Cond.methodLink "SmokeRingsLaw" (138 : Nat) ({ cls := "SmokeRings", name := "ask", desc := "()I" } : MethodName)) ∈ gW := mem_t4 86 (by decide +kernel) (by decide +kernel)
theorem wm_809 : (Cond.code ({ cls := "SmokeRings", name := "ask", desc := "()I" } : MethodName) prog_1_method_32_code (1 : Nat) (Option.some FieldType.int)) ∈ gW := mem_t4 89 (by decide +kernel) (by decide +kernel)
theorem wm_807 : (Cond.instanceMethod ({ cls := "SmokeRings", name := "ask", desc := "()I" } : MethodName)) ∈ gW := mem_t4 87 (by decide +kernel) (by decide +kernel)
theorem wm_808 : (Cond.selects "SmokeRings" ({ cls := "SmokeRings", name := "ask", desc := "()I" } : MethodName) ({ cls := "SmokeRings", name := "ask", desc := "()I" } : MethodName)) ∈ gW := mem_t4 88 (by decide +kernel) (by decide +kernel)
theorem mv_RL_138 : sr_MV RL 138 yX11_ask cX11_ask 1 (some .int) 0 11 := ⟨⟨(RX11, TX11, 13), rfl, rfl⟩, wm_806, wm_807, wm_808, wm_1, wm_809, ⟨by decide +kernel, by decide +kernel⟩, by decide +kernel, by decide⟩
theorem wm_1437 : (Cond.methodLink "SmokeRingsLaw" (141 : Nat) ({ cls := "SmokeRingsModel", name := "ask", desc := "()I" } : MethodName)) ∈ gW := mem_t6 237 (by decide +kernel) (by decide +kernel)
theorem wm_1440 : (Cond.code ({ cls := "SmokeRingsModel", name := "ask", desc := "()I" } : MethodName) prog_14_method_96_code (1 : Nat) (Option.some FieldType.int)) ∈ gW := mem_t7 0 (by decide +kernel) (by decide +kernel)
theorem wm_1438 : (Cond.instanceMethod ({ cls := "SmokeRingsModel", name := "ask", desc := "()I" } : MethodName)) ∈ gW := mem_t6 238 (by decide +kernel) (by decide +kernel)
theorem wm_1439 : (Cond.selects "SmokeRingsModel" ({ cls := "SmokeRingsModel", name := "ask", desc := "()I" } : MethodName) ({ cls := "SmokeRingsModel", name := "ask", desc := "()I" } : MethodName)) ∈ gW := mem_t6 239 (by decide +kernel) (by decide +kernel)
theorem mv_RL_141 : sr_MV RL 141 yX12_ask cX12_ask 1 (some .int) 0 12 := ⟨⟨(RX12, TX12, 32), rfl, rfl⟩, wm_1437, wm_1438, wm_1439, wm_15, wm_1440, ⟨by decide +kernel, by decide +kernel⟩, by decide +kernel, by decide⟩
theorem wm_825 : (Cond.methodLink "SmokeRingsLaw" (142 : Nat) ({ cls := "SmokeRings", name := "still", desc := "(IIIII)J" } : MethodName)) ∈ gW := mem_t4 105 (by decide +kernel) (by decide +kernel)
theorem wm_828 : (Cond.code ({ cls := "SmokeRings", name := "still", desc := "(IIIII)J" } : MethodName) prog_1_method_33_code (6 : Nat) (Option.some FieldType.long)) ∈ gW := mem_t4 108 (by decide +kernel) (by decide +kernel)
theorem wm_826 : (Cond.instanceMethod ({ cls := "SmokeRings", name := "still", desc := "(IIIII)J" } : MethodName)) ∈ gW := mem_t4 106 (by decide +kernel) (by decide +kernel)
theorem wm_827 : (Cond.selects "SmokeRings" ({ cls := "SmokeRings", name := "still", desc := "(IIIII)J" } : MethodName) ({ cls := "SmokeRings", name := "still", desc := "(IIIII)J" } : MethodName)) ∈ gW := mem_t4 107 (by decide +kernel) (by decide +kernel)
theorem mv_RL_142 : sr_MV RL 142 yX11_still cX11_still 6 (some .long) 5 11 := ⟨⟨(RX11, TX11, 13), rfl, rfl⟩, wm_825, wm_826, wm_827, wm_1, wm_828, ⟨by decide +kernel, by decide +kernel⟩, by decide +kernel, by decide⟩
theorem wm_1445 : (Cond.methodLink "SmokeRingsLaw" (146 : Nat) ({ cls := "SmokeRingsModel", name := "still", desc := "(IIIII)J" } : MethodName)) ∈ gW := mem_t7 5 (by decide +kernel) (by decide +kernel)
theorem wm_1448 : (Cond.code ({ cls := "SmokeRingsModel", name := "still", desc := "(IIIII)J" } : MethodName) prog_14_method_98_code (6 : Nat) (Option.some FieldType.long)) ∈ gW := mem_t7 8 (by decide +kernel) (by decide +kernel)
theorem wm_1446 : (Cond.instanceMethod ({ cls := "SmokeRingsModel", name := "still", desc := "(IIIII)J" } : MethodName)) ∈ gW := mem_t7 6 (by decide +kernel) (by decide +kernel)
theorem wm_1447 : (Cond.selects "SmokeRingsModel" ({ cls := "SmokeRingsModel", name := "still", desc := "(IIIII)J" } : MethodName) ({ cls := "SmokeRingsModel", name := "still", desc := "(IIIII)J" } : MethodName)) ∈ gW := mem_t7 7 (by decide +kernel) (by decide +kernel)
theorem mv_RL_146 : sr_MV RL 146 yX12_still cX12_still 6 (some .long) 5 12 := ⟨⟨(RX12, TX12, 32), rfl, rfl⟩, wm_1445, wm_1446, wm_1447, wm_15, wm_1448, ⟨by decide +kernel, by decide +kernel⟩, by decide +kernel, by decide⟩
theorem wm_868 : (Cond.methodLink "SmokeRingsLaw" (147 : Nat) ({ cls := "SmokeRings", name := "evening", desc := "(III)I" } : MethodName)) ∈ gW := mem_t4 148 (by decide +kernel) (by decide +kernel)
theorem wm_871 : (Cond.code ({ cls := "SmokeRings", name := "evening", desc := "(III)I" } : MethodName) prog_1_method_34_code (4 : Nat) (Option.some FieldType.int)) ∈ gW := mem_t4 151 (by decide +kernel) (by decide +kernel)
theorem wm_869 : (Cond.instanceMethod ({ cls := "SmokeRings", name := "evening", desc := "(III)I" } : MethodName)) ∈ gW := mem_t4 149 (by decide +kernel) (by decide +kernel)
theorem wm_870 : (Cond.selects "SmokeRings" ({ cls := "SmokeRings", name := "evening", desc := "(III)I" } : MethodName) ({ cls := "SmokeRings", name := "evening", desc := "(III)I" } : MethodName)) ∈ gW := mem_t4 150 (by decide +kernel) (by decide +kernel)
theorem mv_RL_147 : sr_MV RL 147 yX11_evening cX11_evening 4 (some .int) 3 11 := ⟨⟨(RX11, TX11, 13), rfl, rfl⟩, wm_868, wm_869, wm_870, wm_1, wm_871, ⟨by decide +kernel, by decide +kernel⟩, by decide +kernel, by decide⟩
theorem wm_1461 : (Cond.methodLink "SmokeRingsLaw" (150 : Nat) ({ cls := "SmokeRingsModel", name := "evening", desc := "(III)I" } : MethodName)) ∈ gW := mem_t7 21 (by decide +kernel) (by decide +kernel)
theorem wm_1464 : (Cond.code ({ cls := "SmokeRingsModel", name := "evening", desc := "(III)I" } : MethodName) prog_14_method_101_code (4 : Nat) (Option.some FieldType.int)) ∈ gW := mem_t7 24 (by decide +kernel) (by decide +kernel)
theorem wm_1462 : (Cond.instanceMethod ({ cls := "SmokeRingsModel", name := "evening", desc := "(III)I" } : MethodName)) ∈ gW := mem_t7 22 (by decide +kernel) (by decide +kernel)
theorem wm_1463 : (Cond.selects "SmokeRingsModel" ({ cls := "SmokeRingsModel", name := "evening", desc := "(III)I" } : MethodName) ({ cls := "SmokeRingsModel", name := "evening", desc := "(III)I" } : MethodName)) ∈ gW := mem_t7 23 (by decide +kernel) (by decide +kernel)
theorem mv_RL_150 : sr_MV RL 150 yX12_evening cX12_evening 4 (some .int) 3 12 := ⟨⟨(RX12, TX12, 32), rfl, rfl⟩, wm_1461, wm_1462, wm_1463, wm_15, wm_1464, ⟨by decide +kernel, by decide +kernel⟩, by decide +kernel, by decide⟩
theorem wm_886 : (Cond.methodLink "SmokeRingsLaw" (151 : Nat) ({ cls := "SmokeRings", name := "sheet", desc := "(III)I" } : MethodName)) ∈ gW := mem_t4 166 (by decide +kernel) (by decide +kernel)
theorem wm_889 : (Cond.code ({ cls := "SmokeRings", name := "sheet", desc := "(III)I" } : MethodName) prog_1_method_35_code (4 : Nat) (Option.some FieldType.int)) ∈ gW := mem_t4 169 (by decide +kernel) (by decide +kernel)
theorem wm_887 : (Cond.instanceMethod ({ cls := "SmokeRings", name := "sheet", desc := "(III)I" } : MethodName)) ∈ gW := mem_t4 167 (by decide +kernel) (by decide +kernel)
theorem wm_888 : (Cond.selects "SmokeRings" ({ cls := "SmokeRings", name := "sheet", desc := "(III)I" } : MethodName) ({ cls := "SmokeRings", name := "sheet", desc := "(III)I" } : MethodName)) ∈ gW := mem_t4 168 (by decide +kernel) (by decide +kernel)
theorem mv_RL_151 : sr_MV RL 151 yX11_sheet cX11_sheet 4 (some .int) 3 11 := ⟨⟨(RX11, TX11, 13), rfl, rfl⟩, wm_886, wm_887, wm_888, wm_1, wm_889, ⟨by decide +kernel, by decide +kernel⟩, by decide +kernel, by decide⟩
theorem wm_1075 : (Cond.methodLink "SmokeRingsLaw" (154 : Nat) ({ cls := "SmokeRingsModel", name := "sheet", desc := "(III)I" } : MethodName)) ∈ gW := mem_t5 115 (by decide +kernel) (by decide +kernel)
theorem wm_1078 : (Cond.code ({ cls := "SmokeRingsModel", name := "sheet", desc := "(III)I" } : MethodName) prog_14_method_13_code (5 : Nat) (Option.some FieldType.int)) ∈ gW := mem_t5 118 (by decide +kernel) (by decide +kernel)
theorem wm_1076 : (Cond.instanceMethod ({ cls := "SmokeRingsModel", name := "sheet", desc := "(III)I" } : MethodName)) ∈ gW := mem_t5 116 (by decide +kernel) (by decide +kernel)
theorem wm_1077 : (Cond.selects "SmokeRingsModel" ({ cls := "SmokeRingsModel", name := "sheet", desc := "(III)I" } : MethodName) ({ cls := "SmokeRingsModel", name := "sheet", desc := "(III)I" } : MethodName)) ∈ gW := mem_t5 117 (by decide +kernel) (by decide +kernel)
theorem mv_RL_154 : sr_MV RL 154 yX12_sheet cX12_sheet 5 (some .int) 3 12 := ⟨⟨(RX12, TX12, 32), rfl, rfl⟩, wm_1075, wm_1076, wm_1077, wm_15, wm_1078, ⟨by decide +kernel, by decide +kernel⟩, by decide +kernel, by decide⟩
theorem wm_897 : (Cond.methodLink "SmokeRingsLaw" (155 : Nat) ({ cls := "SmokeRings", name := "lose", desc := "(I)I" } : MethodName)) ∈ gW := mem_t4 177 (by decide +kernel) (by decide +kernel)
theorem wm_900 : (Cond.code ({ cls := "SmokeRings", name := "lose", desc := "(I)I" } : MethodName) prog_1_method_36_code (3 : Nat) (Option.some FieldType.int)) ∈ gW := mem_t4 180 (by decide +kernel) (by decide +kernel)
theorem wm_898 : (Cond.instanceMethod ({ cls := "SmokeRings", name := "lose", desc := "(I)I" } : MethodName)) ∈ gW := mem_t4 178 (by decide +kernel) (by decide +kernel)
theorem wm_899 : (Cond.selects "SmokeRings" ({ cls := "SmokeRings", name := "lose", desc := "(I)I" } : MethodName) ({ cls := "SmokeRings", name := "lose", desc := "(I)I" } : MethodName)) ∈ gW := mem_t4 179 (by decide +kernel) (by decide +kernel)
theorem mv_RL_155 : sr_MV RL 155 yX11_lose cX11_lose 3 (some .int) 1 11 := ⟨⟨(RX11, TX11, 13), rfl, rfl⟩, wm_897, wm_898, wm_899, wm_1, wm_900, ⟨by decide +kernel, by decide +kernel⟩, by decide +kernel, by decide⟩
theorem wm_1091 : (Cond.methodLink "SmokeRingsLaw" (158 : Nat) ({ cls := "SmokeRingsModel", name := "lose", desc := "(I)I" } : MethodName)) ∈ gW := mem_t5 131 (by decide +kernel) (by decide +kernel)
theorem wm_1094 : (Cond.code ({ cls := "SmokeRingsModel", name := "lose", desc := "(I)I" } : MethodName) prog_14_method_14_code (2 : Nat) (Option.some FieldType.int)) ∈ gW := mem_t5 134 (by decide +kernel) (by decide +kernel)
theorem wm_1092 : (Cond.instanceMethod ({ cls := "SmokeRingsModel", name := "lose", desc := "(I)I" } : MethodName)) ∈ gW := mem_t5 132 (by decide +kernel) (by decide +kernel)
theorem wm_1093 : (Cond.selects "SmokeRingsModel" ({ cls := "SmokeRingsModel", name := "lose", desc := "(I)I" } : MethodName) ({ cls := "SmokeRingsModel", name := "lose", desc := "(I)I" } : MethodName)) ∈ gW := mem_t5 133 (by decide +kernel) (by decide +kernel)
theorem mv_RL_158 : sr_MV RL 158 yX12_lose cX12_lose 2 (some .int) 1 12 := ⟨⟨(RX12, TX12, 32), rfl, rfl⟩, wm_1091, wm_1092, wm_1093, wm_15, wm_1094, ⟨by decide +kernel, by decide +kernel⟩, by decide +kernel, by decide⟩
theorem wm_901 : (Cond.methodLink "SmokeRingsLaw" (159 : Nat) ({ cls := "SmokeRings", name := "lay", desc := "(IIII)I" } : MethodName)) ∈ gW := mem_t4 181 (by decide +kernel) (by decide +kernel)
theorem wm_904 : (Cond.code ({ cls := "SmokeRings", name := "lay", desc := "(IIII)I" } : MethodName) prog_1_method_37_code (6 : Nat) (Option.some FieldType.int)) ∈ gW := mem_t4 184 (by decide +kernel) (by decide +kernel)
theorem wm_902 : (Cond.instanceMethod ({ cls := "SmokeRings", name := "lay", desc := "(IIII)I" } : MethodName)) ∈ gW := mem_t4 182 (by decide +kernel) (by decide +kernel)
theorem wm_903 : (Cond.selects "SmokeRings" ({ cls := "SmokeRings", name := "lay", desc := "(IIII)I" } : MethodName) ({ cls := "SmokeRings", name := "lay", desc := "(IIII)I" } : MethodName)) ∈ gW := mem_t4 183 (by decide +kernel) (by decide +kernel)
theorem mv_RL_159 : sr_MV RL 159 yX11_lay cX11_lay 6 (some .int) 4 11 := ⟨⟨(RX11, TX11, 13), rfl, rfl⟩, wm_901, wm_902, wm_903, wm_1, wm_904, ⟨by decide +kernel, by decide +kernel⟩, by decide +kernel, by decide⟩
theorem wm_1095 : (Cond.methodLink "SmokeRingsLaw" (163 : Nat) ({ cls := "SmokeRingsModel", name := "lay", desc := "(IIII)I" } : MethodName)) ∈ gW := mem_t5 135 (by decide +kernel) (by decide +kernel)
theorem wm_1098 : (Cond.code ({ cls := "SmokeRingsModel", name := "lay", desc := "(IIII)I" } : MethodName) prog_14_method_17_code (6 : Nat) (Option.some FieldType.int)) ∈ gW := mem_t5 138 (by decide +kernel) (by decide +kernel)
theorem wm_1096 : (Cond.instanceMethod ({ cls := "SmokeRingsModel", name := "lay", desc := "(IIII)I" } : MethodName)) ∈ gW := mem_t5 136 (by decide +kernel) (by decide +kernel)
theorem wm_1097 : (Cond.selects "SmokeRingsModel" ({ cls := "SmokeRingsModel", name := "lay", desc := "(IIII)I" } : MethodName) ({ cls := "SmokeRingsModel", name := "lay", desc := "(IIII)I" } : MethodName)) ∈ gW := mem_t5 137 (by decide +kernel) (by decide +kernel)
theorem mv_RL_163 : sr_MV RL 163 yX12_lay cX12_lay 6 (some .int) 4 12 := ⟨⟨(RX12, TX12, 32), rfl, rfl⟩, wm_1095, wm_1096, wm_1097, wm_15, wm_1098, ⟨by decide +kernel, by decide +kernel⟩, by decide +kernel, by decide⟩
theorem wm_914 : (Cond.methodLink "SmokeRingsLaw" (164 : Nat) ({ cls := "SmokeRings", name := "get", desc := "(III)I" } : MethodName)) ∈ gW := mem_t4 194 (by decide +kernel) (by decide +kernel)
theorem wm_917 : (Cond.code ({ cls := "SmokeRings", name := "get", desc := "(III)I" } : MethodName) prog_1_method_38_code (5 : Nat) (Option.some FieldType.int)) ∈ gW := mem_t4 197 (by decide +kernel) (by decide +kernel)
theorem wm_915 : (Cond.instanceMethod ({ cls := "SmokeRings", name := "get", desc := "(III)I" } : MethodName)) ∈ gW := mem_t4 195 (by decide +kernel) (by decide +kernel)
theorem wm_916 : (Cond.selects "SmokeRings" ({ cls := "SmokeRings", name := "get", desc := "(III)I" } : MethodName) ({ cls := "SmokeRings", name := "get", desc := "(III)I" } : MethodName)) ∈ gW := mem_t4 196 (by decide +kernel) (by decide +kernel)
theorem mv_RL_164 : sr_MV RL 164 yX11_get cX11_get 5 (some .int) 3 11 := ⟨⟨(RX11, TX11, 13), rfl, rfl⟩, wm_914, wm_915, wm_916, wm_1, wm_917, ⟨by decide +kernel, by decide +kernel⟩, by decide +kernel, by decide⟩
theorem wm_1106 : (Cond.methodLink "SmokeRingsLaw" (167 : Nat) ({ cls := "SmokeRingsModel", name := "get", desc := "(III)I" } : MethodName)) ∈ gW := mem_t5 146 (by decide +kernel) (by decide +kernel)
theorem wm_1109 : (Cond.code ({ cls := "SmokeRingsModel", name := "get", desc := "(III)I" } : MethodName) prog_14_method_18_code (4 : Nat) (Option.some FieldType.int)) ∈ gW := mem_t5 149 (by decide +kernel) (by decide +kernel)
theorem wm_1107 : (Cond.instanceMethod ({ cls := "SmokeRingsModel", name := "get", desc := "(III)I" } : MethodName)) ∈ gW := mem_t5 147 (by decide +kernel) (by decide +kernel)
theorem wm_1108 : (Cond.selects "SmokeRingsModel" ({ cls := "SmokeRingsModel", name := "get", desc := "(III)I" } : MethodName) ({ cls := "SmokeRingsModel", name := "get", desc := "(III)I" } : MethodName)) ∈ gW := mem_t5 148 (by decide +kernel) (by decide +kernel)
theorem mv_RL_167 : sr_MV RL 167 yX12_get cX12_get 4 (some .int) 3 12 := ⟨⟨(RX12, TX12, 32), rfl, rfl⟩, wm_1106, wm_1107, wm_1108, wm_15, wm_1109, ⟨by decide +kernel, by decide +kernel⟩, by decide +kernel, by decide⟩
theorem wm_919 : (Cond.methodLink "SmokeRingsLaw" (168 : Nat) ({ cls := "SmokeRings", name := "copy", desc := "(IIIII)I" } : MethodName)) ∈ gW := mem_t4 199 (by decide +kernel) (by decide +kernel)
theorem wm_922 : (Cond.code ({ cls := "SmokeRings", name := "copy", desc := "(IIIII)I" } : MethodName) prog_1_method_39_code (8 : Nat) (Option.some FieldType.int)) ∈ gW := mem_t4 202 (by decide +kernel) (by decide +kernel)
theorem wm_920 : (Cond.instanceMethod ({ cls := "SmokeRings", name := "copy", desc := "(IIIII)I" } : MethodName)) ∈ gW := mem_t4 200 (by decide +kernel) (by decide +kernel)
theorem wm_921 : (Cond.selects "SmokeRings" ({ cls := "SmokeRings", name := "copy", desc := "(IIIII)I" } : MethodName) ({ cls := "SmokeRings", name := "copy", desc := "(IIIII)I" } : MethodName)) ∈ gW := mem_t4 201 (by decide +kernel) (by decide +kernel)
theorem mv_RL_168 : sr_MV RL 168 yX11_copy cX11_copy 8 (some .int) 5 11 := ⟨⟨(RX11, TX11, 13), rfl, rfl⟩, wm_919, wm_920, wm_921, wm_1, wm_922, ⟨by decide +kernel, by decide +kernel⟩, by decide +kernel, by decide⟩
theorem wm_1111 : (Cond.methodLink "SmokeRingsLaw" (171 : Nat) ({ cls := "SmokeRingsModel", name := "copy", desc := "(IIIII)I" } : MethodName)) ∈ gW := mem_t5 151 (by decide +kernel) (by decide +kernel)
theorem wm_1114 : (Cond.code ({ cls := "SmokeRingsModel", name := "copy", desc := "(IIIII)I" } : MethodName) prog_14_method_19_code (7 : Nat) (Option.some FieldType.int)) ∈ gW := mem_t5 154 (by decide +kernel) (by decide +kernel)
theorem wm_1112 : (Cond.instanceMethod ({ cls := "SmokeRingsModel", name := "copy", desc := "(IIIII)I" } : MethodName)) ∈ gW := mem_t5 152 (by decide +kernel) (by decide +kernel)
theorem wm_1113 : (Cond.selects "SmokeRingsModel" ({ cls := "SmokeRingsModel", name := "copy", desc := "(IIIII)I" } : MethodName) ({ cls := "SmokeRingsModel", name := "copy", desc := "(IIIII)I" } : MethodName)) ∈ gW := mem_t5 153 (by decide +kernel) (by decide +kernel)
theorem mv_RL_171 : sr_MV RL 171 yX12_copy cX12_copy 7 (some .int) 5 12 := ⟨⟨(RX12, TX12, 32), rfl, rfl⟩, wm_1111, wm_1112, wm_1113, wm_15, wm_1114, ⟨by decide +kernel, by decide +kernel⟩, by decide +kernel, by decide⟩
theorem wm_928 : (Cond.methodLink "SmokeRingsLaw" (172 : Nat) ({ cls := "SmokeRings", name := "write", desc := "(II)I" } : MethodName)) ∈ gW := mem_t4 208 (by decide +kernel) (by decide +kernel)
theorem wm_931 : (Cond.code ({ cls := "SmokeRings", name := "write", desc := "(II)I" } : MethodName) prog_1_method_40_code (5 : Nat) (Option.some FieldType.int)) ∈ gW := mem_t4 211 (by decide +kernel) (by decide +kernel)
theorem wm_929 : (Cond.instanceMethod ({ cls := "SmokeRings", name := "write", desc := "(II)I" } : MethodName)) ∈ gW := mem_t4 209 (by decide +kernel) (by decide +kernel)
theorem wm_930 : (Cond.selects "SmokeRings" ({ cls := "SmokeRings", name := "write", desc := "(II)I" } : MethodName) ({ cls := "SmokeRings", name := "write", desc := "(II)I" } : MethodName)) ∈ gW := mem_t4 210 (by decide +kernel) (by decide +kernel)
theorem mv_RL_172 : sr_MV RL 172 yX11_write cX11_write 5 (some .int) 2 11 := ⟨⟨(RX11, TX11, 13), rfl, rfl⟩, wm_928, wm_929, wm_930, wm_1, wm_931, ⟨by decide +kernel, by decide +kernel⟩, by decide +kernel, by decide⟩
theorem wm_1475 : (Cond.methodLink "SmokeRingsLaw" (175 : Nat) ({ cls := "SmokeRingsModel", name := "write", desc := "(II)I" } : MethodName)) ∈ gW := mem_t7 35 (by decide +kernel) (by decide +kernel)
theorem wm_1478 : (Cond.code ({ cls := "SmokeRingsModel", name := "write", desc := "(II)I" } : MethodName) prog_14_method_102_code (5 : Nat) (Option.some FieldType.int)) ∈ gW := mem_t7 38 (by decide +kernel) (by decide +kernel)
theorem wm_1476 : (Cond.instanceMethod ({ cls := "SmokeRingsModel", name := "write", desc := "(II)I" } : MethodName)) ∈ gW := mem_t7 36 (by decide +kernel) (by decide +kernel)
theorem wm_1477 : (Cond.selects "SmokeRingsModel" ({ cls := "SmokeRingsModel", name := "write", desc := "(II)I" } : MethodName) ({ cls := "SmokeRingsModel", name := "write", desc := "(II)I" } : MethodName)) ∈ gW := mem_t7 37 (by decide +kernel) (by decide +kernel)
theorem mv_RL_175 : sr_MV RL 175 yX12_write cX12_write 5 (some .int) 2 12 := ⟨⟨(RX12, TX12, 32), rfl, rfl⟩, wm_1475, wm_1476, wm_1477, wm_15, wm_1478, ⟨by decide +kernel, by decide +kernel⟩, by decide +kernel, by decide⟩
theorem wm_933 : (Cond.methodLink "SmokeRingsLaw" (176 : Nat) ({ cls := "SmokeRings", name := "count", desc := "(I)I" } : MethodName)) ∈ gW := mem_t4 213 (by decide +kernel) (by decide +kernel)
theorem mv_RL_176 : sr_MV RL 176 yX11_count cX11_count 2 (some .int) 1 11 := ⟨⟨(RX11, TX11, 13), rfl, rfl⟩, wm_933, wm_934, wm_935, wm_1, wm_936, ⟨by decide +kernel, by decide +kernel⟩, by decide +kernel, by decide⟩
theorem wm_1482 : (Cond.methodLink "SmokeRingsLaw" (179 : Nat) ({ cls := "SmokeRingsModel", name := "count", desc := "(I)I" } : MethodName)) ∈ gW := mem_t7 42 (by decide +kernel) (by decide +kernel)
theorem wm_1485 : (Cond.code ({ cls := "SmokeRingsModel", name := "count", desc := "(I)I" } : MethodName) prog_14_method_103_code (2 : Nat) (Option.some FieldType.int)) ∈ gW := mem_t7 45 (by decide +kernel) (by decide +kernel)
theorem wm_1483 : (Cond.instanceMethod ({ cls := "SmokeRingsModel", name := "count", desc := "(I)I" } : MethodName)) ∈ gW := mem_t7 43 (by decide +kernel) (by decide +kernel)
theorem wm_1484 : (Cond.selects "SmokeRingsModel" ({ cls := "SmokeRingsModel", name := "count", desc := "(I)I" } : MethodName) ({ cls := "SmokeRingsModel", name := "count", desc := "(I)I" } : MethodName)) ∈ gW := mem_t7 44 (by decide +kernel) (by decide +kernel)
theorem mv_RL_179 : sr_MV RL 179 yX12_count cX12_count 2 (some .int) 1 12 := ⟨⟨(RX12, TX12, 32), rfl, rfl⟩, wm_1482, wm_1483, wm_1484, wm_15, wm_1485, ⟨by decide +kernel, by decide +kernel⟩, by decide +kernel, by decide⟩
theorem wm_937 : (Cond.methodLink "SmokeRingsLaw" (180 : Nat) ({ cls := "SmokeRings", name := "digest", desc := "()J" } : MethodName)) ∈ gW := mem_t4 217 (by decide +kernel) (by decide +kernel)
theorem wm_940 : (Cond.code ({ cls := "SmokeRings", name := "digest", desc := "()J" } : MethodName) prog_1_method_42_code (4 : Nat) (Option.some FieldType.long)) ∈ gW := mem_t4 220 (by decide +kernel) (by decide +kernel)
theorem wm_938 : (Cond.instanceMethod ({ cls := "SmokeRings", name := "digest", desc := "()J" } : MethodName)) ∈ gW := mem_t4 218 (by decide +kernel) (by decide +kernel)
theorem wm_939 : (Cond.selects "SmokeRings" ({ cls := "SmokeRings", name := "digest", desc := "()J" } : MethodName) ({ cls := "SmokeRings", name := "digest", desc := "()J" } : MethodName)) ∈ gW := mem_t4 219 (by decide +kernel) (by decide +kernel)
theorem mv_RL_180 : sr_MV RL 180 yX11_digest cX11_digest 4 (some .long) 0 11 := ⟨⟨(RX11, TX11, 13), rfl, rfl⟩, wm_937, wm_938, wm_939, wm_1, wm_940, ⟨by decide +kernel, by decide +kernel⟩, by decide +kernel, by decide⟩
theorem wm_1486 : (Cond.methodLink "SmokeRingsLaw" (184 : Nat) ({ cls := "SmokeRingsModel", name := "digest", desc := "()J" } : MethodName)) ∈ gW := mem_t7 46 (by decide +kernel) (by decide +kernel)
theorem wm_1489 : (Cond.code ({ cls := "SmokeRingsModel", name := "digest", desc := "()J" } : MethodName) prog_14_method_107_code (4 : Nat) (Option.some FieldType.long)) ∈ gW := mem_t7 49 (by decide +kernel) (by decide +kernel)
theorem wm_1487 : (Cond.instanceMethod ({ cls := "SmokeRingsModel", name := "digest", desc := "()J" } : MethodName)) ∈ gW := mem_t7 47 (by decide +kernel) (by decide +kernel)
theorem wm_1488 : (Cond.selects "SmokeRingsModel" ({ cls := "SmokeRingsModel", name := "digest", desc := "()J" } : MethodName) ({ cls := "SmokeRingsModel", name := "digest", desc := "()J" } : MethodName)) ∈ gW := mem_t7 48 (by decide +kernel) (by decide +kernel)
theorem mv_RL_184 : sr_MV RL 184 yX12_digest cX12_digest 4 (some .long) 0 12 := ⟨⟨(RX12, TX12, 32), rfl, rfl⟩, wm_1486, wm_1487, wm_1488, wm_15, wm_1489, ⟨by decide +kernel, by decide +kernel⟩, by decide +kernel, by decide⟩
theorem wm_1083 : (Cond.methodLink "SmokeRingsModel" (76 : Nat) ({ cls := "SmokeRingsModel", name := "in", desc := "(JJJ)Z" } : MethodName)) ∈ gW := mem_t5 123 (by decide +kernel) (by decide +kernel)
theorem wm_1085 : (Cond.code ({ cls := "SmokeRingsModel", name := "in", desc := "(JJJ)Z" } : MethodName) prog_14_method_3_code (6 : Nat) (Option.some FieldType.boolean)) ∈ gW := mem_t5 125 (by decide +kernel) (by decide +kernel)
theorem wm_1084 : (Cond.static ({ cls := "SmokeRingsModel", name := "in", desc := "(JJJ)Z" } : MethodName)) ∈ gW := mem_t5 124 (by decide +kernel) (by decide +kernel)
theorem ms_RX12_76 : sr_MS RX12 76 yX12_in cX12_in 6 (some .boolean) 3 := ⟨wm_1083, wm_1084, wm_15, wm_1085, ⟨by decide +kernel, by decide +kernel⟩, by decide +kernel, by decide⟩
theorem wm_1079 : (Cond.methodLink "SmokeRingsModel" (85 : Nat) ({ cls := "SmokeRingsModel", name := "isSheet", desc := "(I)Z" } : MethodName)) ∈ gW := mem_t5 119 (by decide +kernel) (by decide +kernel)
theorem wm_1081 : (Cond.code ({ cls := "SmokeRingsModel", name := "isSheet", desc := "(I)Z" } : MethodName) prog_14_method_12_code (1 : Nat) (Option.some FieldType.boolean)) ∈ gW := mem_t5 121 (by decide +kernel) (by decide +kernel)
theorem wm_1080 : (Cond.static ({ cls := "SmokeRingsModel", name := "isSheet", desc := "(I)Z" } : MethodName)) ∈ gW := mem_t5 120 (by decide +kernel) (by decide +kernel)
theorem ms_RX12_85 : sr_MS RX12 85 yX12_isSheet cX12_isSheet 1 (some .boolean) 1 := ⟨wm_1079, wm_1080, wm_15, wm_1081, ⟨by decide +kernel, by decide +kernel⟩, by decide +kernel, by decide⟩
theorem wm_1087 : (Cond.methodLink "SmokeRingsModel" (91 : Nat) ({ cls := "SmokeRingsModel", name := "finds", desc := "(I)I" } : MethodName)) ∈ gW := mem_t5 127 (by decide +kernel) (by decide +kernel)
theorem wm_1090 : (Cond.code ({ cls := "SmokeRingsModel", name := "finds", desc := "(I)I" } : MethodName) prog_14_method_11_code (2 : Nat) (Option.some FieldType.int)) ∈ gW := mem_t5 130 (by decide +kernel) (by decide +kernel)
theorem wm_1089 : (Cond.instanceMethod ({ cls := "SmokeRingsModel", name := "finds", desc := "(I)I" } : MethodName)) ∈ gW := mem_t5 129 (by decide +kernel) (by decide +kernel)
theorem pv_X12_finds : Cond.selects yX12_finds.cls yX12_finds yX12_finds ∈ gW := mem_prv (n := 32) (by decide +kernel) (by decide +kernel)
theorem mv_RX12_91 : sr_MV RX12 91 yX12_finds cX12_finds 2 (some .int) 1 12 := ⟨⟨(RX12, TX12, 32), rfl, rfl⟩, wm_1087, wm_1089, pv_X12_finds, wm_15, wm_1090, ⟨by decide +kernel, by decide +kernel⟩, by decide +kernel, by decide⟩
theorem wm_1099 : (Cond.methodLink "SmokeRingsModel" (95 : Nat) ({ cls := "SmokeRingsModel", name := "lacks", desc := "(III)I" } : MethodName)) ∈ gW := mem_t5 139 (by decide +kernel) (by decide +kernel)
theorem wm_1102 : (Cond.code ({ cls := "SmokeRingsModel", name := "lacks", desc := "(III)I" } : MethodName) prog_14_method_15_code (4 : Nat) (Option.some FieldType.int)) ∈ gW := mem_t5 142 (by decide +kernel) (by decide +kernel)
theorem wm_1101 : (Cond.instanceMethod ({ cls := "SmokeRingsModel", name := "lacks", desc := "(III)I" } : MethodName)) ∈ gW := mem_t5 141 (by decide +kernel) (by decide +kernel)
theorem pv_X12_lacks : Cond.selects yX12_lacks.cls yX12_lacks yX12_lacks ∈ gW := mem_prv (n := 32) (by decide +kernel) (by decide +kernel)
theorem mv_RX12_95 : sr_MV RX12 95 yX12_lacks cX12_lacks 4 (some .int) 3 12 := ⟨⟨(RX12, TX12, 32), rfl, rfl⟩, wm_1099, wm_1101, pv_X12_lacks, wm_15, wm_1102, ⟨by decide +kernel, by decide +kernel⟩, by decide +kernel, by decide⟩
theorem wm_1103 : (Cond.methodLink "SmokeRingsModel" (99 : Nat) ({ cls := "SmokeRingsModel", name := "cut", desc := "(II)I" } : MethodName)) ∈ gW := mem_t5 143 (by decide +kernel) (by decide +kernel)
theorem wm_1105 : (Cond.code ({ cls := "SmokeRingsModel", name := "cut", desc := "(II)I" } : MethodName) prog_14_method_16_code (2 : Nat) (Option.some FieldType.int)) ∈ gW := mem_t5 145 (by decide +kernel) (by decide +kernel)
theorem wm_1104 : (Cond.static ({ cls := "SmokeRingsModel", name := "cut", desc := "(II)I" } : MethodName)) ∈ gW := mem_t5 144 (by decide +kernel) (by decide +kernel)
theorem ms_RX12_99 : sr_MS RX12 99 yX12_cut cX12_cut 2 (some .int) 2 := ⟨wm_1103, wm_1104, wm_15, wm_1105, ⟨by decide +kernel, by decide +kernel⟩, by decide +kernel, by decide⟩
theorem wm_1119 : (Cond.methodLink "SmokeRingsModel" (104 : Nat) ({ cls := "SmokeRingsModel", name := "isText", desc := "(I)Z" } : MethodName)) ∈ gW := mem_t5 159 (by decide +kernel) (by decide +kernel)
theorem wm_1121 : (Cond.code ({ cls := "SmokeRingsModel", name := "isText", desc := "(I)Z" } : MethodName) prog_14_method_20_code (1 : Nat) (Option.some FieldType.boolean)) ∈ gW := mem_t5 161 (by decide +kernel) (by decide +kernel)
theorem wm_1120 : (Cond.static ({ cls := "SmokeRingsModel", name := "isText", desc := "(I)Z" } : MethodName)) ∈ gW := mem_t5 160 (by decide +kernel) (by decide +kernel)
theorem ms_RX12_104 : sr_MS RX12 104 yX12_isText cX12_isText 1 (some .boolean) 1 := ⟨wm_1119, wm_1120, wm_15, wm_1121, ⟨by decide +kernel, by decide +kernel⟩, by decide +kernel, by decide⟩
theorem wm_1143 : (Cond.methodLink "SmokeRingsModel" (115 : Nat) ({ cls := "SmokeRingsModel", name := "torn", desc := "(I)I" } : MethodName)) ∈ gW := mem_t5 183 (by decide +kernel) (by decide +kernel)
theorem wm_1146 : (Cond.code ({ cls := "SmokeRingsModel", name := "torn", desc := "(I)I" } : MethodName) prog_14_method_24_code (2 : Nat) (Option.some FieldType.int)) ∈ gW := mem_t5 186 (by decide +kernel) (by decide +kernel)
theorem wm_1145 : (Cond.instanceMethod ({ cls := "SmokeRingsModel", name := "torn", desc := "(I)I" } : MethodName)) ∈ gW := mem_t5 185 (by decide +kernel) (by decide +kernel)
theorem pv_X12_torn : Cond.selects yX12_torn.cls yX12_torn yX12_torn ∈ gW := mem_prv (n := 32) (by decide +kernel) (by decide +kernel)
theorem mv_RX12_115 : sr_MV RX12 115 yX12_torn cX12_torn 2 (some .int) 1 12 := ⟨⟨(RX12, TX12, 32), rfl, rfl⟩, wm_1143, wm_1145, pv_X12_torn, wm_15, wm_1146, ⟨by decide +kernel, by decide +kernel⟩, by decide +kernel, by decide⟩
theorem wm_1151 : (Cond.methodLink "SmokeRingsModel" (129 : Nat) ({ cls := "SmokeRingsModel", name := "thingOf", desc := "(II)I" } : MethodName)) ∈ gW := mem_t5 191 (by decide +kernel) (by decide +kernel)
theorem wm_1153 : (Cond.code ({ cls := "SmokeRingsModel", name := "thingOf", desc := "(II)I" } : MethodName) prog_14_method_26_code (2 : Nat) (Option.some FieldType.int)) ∈ gW := mem_t5 193 (by decide +kernel) (by decide +kernel)
theorem wm_1152 : (Cond.static ({ cls := "SmokeRingsModel", name := "thingOf", desc := "(II)I" } : MethodName)) ∈ gW := mem_t5 192 (by decide +kernel) (by decide +kernel)
theorem ms_RX12_129 : sr_MS RX12 129 yX12_thingOf cX12_thingOf 2 (some .int) 2 := ⟨wm_1151, wm_1152, wm_15, wm_1153, ⟨by decide +kernel, by decide +kernel⟩, by decide +kernel, by decide⟩
theorem wm_1162 : (Cond.methodLink "SmokeRingsModel" (132 : Nat) ({ cls := "SmokeRingsModel", name := "stills", desc := "()V" } : MethodName)) ∈ gW := mem_t5 202 (by decide +kernel) (by decide +kernel)
theorem wm_1165 : (Cond.code ({ cls := "SmokeRingsModel", name := "stills", desc := "()V" } : MethodName) prog_14_method_28_code (2 : Nat) (Option.none : Option FieldType)) ∈ gW := mem_t5 205 (by decide +kernel) (by decide +kernel)
theorem wm_1164 : (Cond.instanceMethod ({ cls := "SmokeRingsModel", name := "stills", desc := "()V" } : MethodName)) ∈ gW := mem_t5 204 (by decide +kernel) (by decide +kernel)
theorem pv_X12_stills : Cond.selects yX12_stills.cls yX12_stills yX12_stills ∈ gW := mem_prv (n := 32) (by decide +kernel) (by decide +kernel)
theorem mv_RX12_132 : sr_MV RX12 132 yX12_stills cX12_stills 2 none 0 12 := ⟨⟨(RX12, TX12, 32), rfl, rfl⟩, wm_1162, wm_1164, pv_X12_stills, wm_15, wm_1165, ⟨by decide +kernel, by decide +kernel⟩, by decide +kernel, by decide⟩
theorem wm_1139 : (Cond.methodLink "SmokeRingsModel" (135 : Nat) ({ cls := "SmokeRingsModel", name := "readsValley", desc := "()I" } : MethodName)) ∈ gW := mem_t5 179 (by decide +kernel) (by decide +kernel)
theorem wm_1142 : (Cond.code ({ cls := "SmokeRingsModel", name := "readsValley", desc := "()I" } : MethodName) prog_14_method_25_code (6 : Nat) (Option.some FieldType.int)) ∈ gW := mem_t5 182 (by decide +kernel) (by decide +kernel)
theorem wm_1141 : (Cond.instanceMethod ({ cls := "SmokeRingsModel", name := "readsValley", desc := "()I" } : MethodName)) ∈ gW := mem_t5 181 (by decide +kernel) (by decide +kernel)
theorem pv_X12_readsValley : Cond.selects yX12_readsValley.cls yX12_readsValley yX12_readsValley ∈ gW := mem_prv (n := 32) (by decide +kernel) (by decide +kernel)
theorem mv_RX12_135 : sr_MV RX12 135 yX12_readsValley cX12_readsValley 6 (some .int) 0 12 := ⟨⟨(RX12, TX12, 32), rfl, rfl⟩, wm_1139, wm_1141, pv_X12_readsValley, wm_15, wm_1142, ⟨by decide +kernel, by decide +kernel⟩, by decide +kernel, by decide⟩
theorem wm_1147 : (Cond.methodLink "SmokeRingsModel" (139 : Nat) ({ cls := "SmokeRingsModel", name := "readsThings", desc := "()I" } : MethodName)) ∈ gW := mem_t5 187 (by decide +kernel) (by decide +kernel)
theorem wm_1150 : (Cond.code ({ cls := "SmokeRingsModel", name := "readsThings", desc := "()I" } : MethodName) prog_14_method_27_code (6 : Nat) (Option.some FieldType.int)) ∈ gW := mem_t5 190 (by decide +kernel) (by decide +kernel)
theorem wm_1149 : (Cond.instanceMethod ({ cls := "SmokeRingsModel", name := "readsThings", desc := "()I" } : MethodName)) ∈ gW := mem_t5 189 (by decide +kernel) (by decide +kernel)
theorem pv_X12_readsThings : Cond.selects yX12_readsThings.cls yX12_readsThings yX12_readsThings ∈ gW := mem_prv (n := 32) (by decide +kernel) (by decide +kernel)
theorem mv_RX12_139 : sr_MV RX12 139 yX12_readsThings cX12_readsThings 6 (some .int) 0 12 := ⟨⟨(RX12, TX12, 32), rfl, rfl⟩, wm_1147, wm_1149, pv_X12_readsThings, wm_15, wm_1150, ⟨by decide +kernel, by decide +kernel⟩, by decide +kernel, by decide⟩
theorem wm_1158 : (Cond.methodLink "SmokeRingsModel" (142 : Nat) ({ cls := "SmokeRingsModel", name := "readsWind", desc := "()I" } : MethodName)) ∈ gW := mem_t5 198 (by decide +kernel) (by decide +kernel)
theorem wm_1161 : (Cond.code ({ cls := "SmokeRingsModel", name := "readsWind", desc := "()I" } : MethodName) prog_14_method_29_code (4 : Nat) (Option.some FieldType.int)) ∈ gW := mem_t5 201 (by decide +kernel) (by decide +kernel)
theorem wm_1160 : (Cond.instanceMethod ({ cls := "SmokeRingsModel", name := "readsWind", desc := "()I" } : MethodName)) ∈ gW := mem_t5 200 (by decide +kernel) (by decide +kernel)
theorem pv_X12_readsWind : Cond.selects yX12_readsWind.cls yX12_readsWind yX12_readsWind ∈ gW := mem_prv (n := 32) (by decide +kernel) (by decide +kernel)
theorem mv_RX12_142 : sr_MV RX12 142 yX12_readsWind cX12_readsWind 4 (some .int) 0 12 := ⟨⟨(RX12, TX12, 32), rfl, rfl⟩, wm_1158, wm_1160, pv_X12_readsWind, wm_15, wm_1161, ⟨by decide +kernel, by decide +kernel⟩, by decide +kernel, by decide⟩
theorem wm_1135 : (Cond.methodLink "SmokeRingsModel" (145 : Nat) ({ cls := "SmokeRingsModel", name := "readsText", desc := "(I)I" } : MethodName)) ∈ gW := mem_t5 175 (by decide +kernel) (by decide +kernel)
theorem wm_1138 : (Cond.code ({ cls := "SmokeRingsModel", name := "readsText", desc := "(I)I" } : MethodName) prog_14_method_30_code (2 : Nat) (Option.some FieldType.int)) ∈ gW := mem_t5 178 (by decide +kernel) (by decide +kernel)
theorem wm_1137 : (Cond.instanceMethod ({ cls := "SmokeRingsModel", name := "readsText", desc := "(I)I" } : MethodName)) ∈ gW := mem_t5 177 (by decide +kernel) (by decide +kernel)
theorem pv_X12_readsText : Cond.selects yX12_readsText.cls yX12_readsText yX12_readsText ∈ gW := mem_prv (n := 32) (by decide +kernel) (by decide +kernel)
theorem mv_RX12_145 : sr_MV RX12 145 yX12_readsText cX12_readsText 2 (some .int) 1 12 := ⟨⟨(RX12, TX12, 32), rfl, rfl⟩, wm_1135, wm_1137, pv_X12_readsText, wm_15, wm_1138, ⟨by decide +kernel, by decide +kernel⟩, by decide +kernel, by decide⟩
theorem wm_1175 : (Cond.methodLink "SmokeRingsModel" (152 : Nat) ({ cls := "SmokeRingsModel", name := "isThing", desc := "(I)Z" } : MethodName)) ∈ gW := mem_t5 215 (by decide +kernel) (by decide +kernel)
theorem wm_1178 : (Cond.code ({ cls := "SmokeRingsModel", name := "isThing", desc := "(I)Z" } : MethodName) prog_14_method_33_code (2 : Nat) (Option.some FieldType.boolean)) ∈ gW := mem_t5 218 (by decide +kernel) (by decide +kernel)
theorem wm_1177 : (Cond.instanceMethod ({ cls := "SmokeRingsModel", name := "isThing", desc := "(I)Z" } : MethodName)) ∈ gW := mem_t5 217 (by decide +kernel) (by decide +kernel)
theorem pv_X12_isThing : Cond.selects yX12_isThing.cls yX12_isThing yX12_isThing ∈ gW := mem_prv (n := 32) (by decide +kernel) (by decide +kernel)
theorem mv_RX12_152 : sr_MV RX12 152 yX12_isThing cX12_isThing 2 (some .boolean) 1 12 := ⟨⟨(RX12, TX12, 32), rfl, rfl⟩, wm_1175, wm_1177, pv_X12_isThing, wm_15, wm_1178, ⟨by decide +kernel, by decide +kernel⟩, by decide +kernel, by decide⟩
theorem wm_1183 : (Cond.methodLink "SmokeRingsModel" (155 : Nat) ({ cls := "SmokeRingsModel", name := "isStep", desc := "(I)Z" } : MethodName)) ∈ gW := mem_t5 223 (by decide +kernel) (by decide +kernel)
theorem wm_1185 : (Cond.code ({ cls := "SmokeRingsModel", name := "isStep", desc := "(I)Z" } : MethodName) prog_14_method_34_code (1 : Nat) (Option.some FieldType.boolean)) ∈ gW := mem_t5 225 (by decide +kernel) (by decide +kernel)
theorem wm_1184 : (Cond.static ({ cls := "SmokeRingsModel", name := "isStep", desc := "(I)Z" } : MethodName)) ∈ gW := mem_t5 224 (by decide +kernel) (by decide +kernel)
theorem ms_RX12_155 : sr_MS RX12 155 yX12_isStep cX12_isStep 1 (some .boolean) 1 := ⟨wm_1183, wm_1184, wm_15, wm_1185, ⟨by decide +kernel, by decide +kernel⟩, by decide +kernel, by decide⟩
theorem wm_1197 : (Cond.methodLink "SmokeRingsModel" (165 : Nat) ({ cls := "SmokeRingsModel", name := "puts", desc := "(IIIII)V" } : MethodName)) ∈ gW := mem_t5 237 (by decide +kernel) (by decide +kernel)
theorem wm_1200 : (Cond.code ({ cls := "SmokeRingsModel", name := "puts", desc := "(IIIII)V" } : MethodName) prog_14_method_39_code (6 : Nat) (Option.none : Option FieldType)) ∈ gW := mem_t6 0 (by decide +kernel) (by decide +kernel)
theorem wm_1199 : (Cond.instanceMethod ({ cls := "SmokeRingsModel", name := "puts", desc := "(IIIII)V" } : MethodName)) ∈ gW := mem_t5 239 (by decide +kernel) (by decide +kernel)
theorem pv_X12_puts : Cond.selects yX12_puts.cls yX12_puts yX12_puts ∈ gW := mem_prv (n := 32) (by decide +kernel) (by decide +kernel)
theorem mv_RX12_165 : sr_MV RX12 165 yX12_puts cX12_puts 6 none 5 12 := ⟨⟨(RX12, TX12, 32), rfl, rfl⟩, wm_1197, wm_1199, pv_X12_puts, wm_15, wm_1200, ⟨by decide +kernel, by decide +kernel⟩, by decide +kernel, by decide⟩
theorem wm_1205 : (Cond.methodLink "SmokeRingsModel" (169 : Nat) ({ cls := "SmokeRingsModel", name := "isRing", desc := "(I)Z" } : MethodName)) ∈ gW := mem_t6 5 (by decide +kernel) (by decide +kernel)
theorem wm_1208 : (Cond.code ({ cls := "SmokeRingsModel", name := "isRing", desc := "(I)Z" } : MethodName) prog_14_method_41_code (2 : Nat) (Option.some FieldType.boolean)) ∈ gW := mem_t6 8 (by decide +kernel) (by decide +kernel)
theorem wm_1207 : (Cond.instanceMethod ({ cls := "SmokeRingsModel", name := "isRing", desc := "(I)Z" } : MethodName)) ∈ gW := mem_t6 7 (by decide +kernel) (by decide +kernel)
theorem pv_X12_isRing : Cond.selects yX12_isRing.cls yX12_isRing yX12_isRing ∈ gW := mem_prv (n := 32) (by decide +kernel) (by decide +kernel)
theorem mv_RX12_169 : sr_MV RX12 169 yX12_isRing cX12_isRing 2 (some .boolean) 1 12 := ⟨⟨(RX12, TX12, 32), rfl, rfl⟩, wm_1205, wm_1207, pv_X12_isRing, wm_15, wm_1208, ⟨by decide +kernel, by decide +kernel⟩, by decide +kernel, by decide⟩
theorem wm_1217 : (Cond.methodLink "SmokeRingsModel" (172 : Nat) ({ cls := "SmokeRingsModel", name := "blow", desc := "(IIIII)I" } : MethodName)) ∈ gW := mem_t6 17 (by decide +kernel) (by decide +kernel)
theorem mv_RX12_172 : sr_MV RX12 172 yX12_blow cX12_blow 6 (some .int) 5 12 := ⟨⟨(RX12, TX12, 32), rfl, rfl⟩, wm_1217, wm_1193, wm_1194, wm_15, wm_1195, ⟨by decide +kernel, by decide +kernel⟩, by decide +kernel, by decide⟩
theorem wm_1242 : (Cond.methodLink "SmokeRingsModel" (176 : Nat) ({ cls := "SmokeRingsModel", name := "beside", desc := "(II)I" } : MethodName)) ∈ gW := mem_t6 42 (by decide +kernel) (by decide +kernel)
theorem wm_1245 : (Cond.code ({ cls := "SmokeRingsModel", name := "beside", desc := "(II)I" } : MethodName) prog_14_method_45_code (4 : Nat) (Option.some FieldType.int)) ∈ gW := mem_t6 45 (by decide +kernel) (by decide +kernel)
theorem wm_1244 : (Cond.instanceMethod ({ cls := "SmokeRingsModel", name := "beside", desc := "(II)I" } : MethodName)) ∈ gW := mem_t6 44 (by decide +kernel) (by decide +kernel)
theorem pv_X12_beside : Cond.selects yX12_beside.cls yX12_beside yX12_beside ∈ gW := mem_prv (n := 32) (by decide +kernel) (by decide +kernel)
theorem mv_RX12_176 : sr_MV RX12 176 yX12_beside cX12_beside 4 (some .int) 2 12 := ⟨⟨(RX12, TX12, 32), rfl, rfl⟩, wm_1242, wm_1244, pv_X12_beside, wm_15, wm_1245, ⟨by decide +kernel, by decide +kernel⟩, by decide +kernel, by decide⟩
theorem wm_1238 : (Cond.methodLink "SmokeRingsModel" (179 : Nat) ({ cls := "SmokeRingsModel", name := "goes", desc := "(II)V" } : MethodName)) ∈ gW := mem_t6 38 (by decide +kernel) (by decide +kernel)
theorem wm_1241 : (Cond.code ({ cls := "SmokeRingsModel", name := "goes", desc := "(II)V" } : MethodName) prog_14_method_46_code (4 : Nat) (Option.none : Option FieldType)) ∈ gW := mem_t6 41 (by decide +kernel) (by decide +kernel)
theorem wm_1240 : (Cond.instanceMethod ({ cls := "SmokeRingsModel", name := "goes", desc := "(II)V" } : MethodName)) ∈ gW := mem_t6 40 (by decide +kernel) (by decide +kernel)
theorem pv_X12_goes : Cond.selects yX12_goes.cls yX12_goes yX12_goes ∈ gW := mem_prv (n := 32) (by decide +kernel) (by decide +kernel)
theorem mv_RX12_179 : sr_MV RX12 179 yX12_goes cX12_goes 4 none 2 12 := ⟨⟨(RX12, TX12, 32), rfl, rfl⟩, wm_1238, wm_1240, pv_X12_goes, wm_15, wm_1241, ⟨by decide +kernel, by decide +kernel⟩, by decide +kernel, by decide⟩
theorem wm_1246 : (Cond.methodLink "SmokeRingsModel" (186 : Nat) ({ cls := "SmokeRingsModel", name := "isIn", desc := "(II)Z" } : MethodName)) ∈ gW := mem_t6 46 (by decide +kernel) (by decide +kernel)
theorem wm_1248 : (Cond.code ({ cls := "SmokeRingsModel", name := "isIn", desc := "(II)Z" } : MethodName) prog_14_method_6_code (2 : Nat) (Option.some FieldType.boolean)) ∈ gW := mem_t6 48 (by decide +kernel) (by decide +kernel)
theorem wm_1247 : (Cond.static ({ cls := "SmokeRingsModel", name := "isIn", desc := "(II)Z" } : MethodName)) ∈ gW := mem_t6 47 (by decide +kernel) (by decide +kernel)
theorem ms_RX12_186 : sr_MS RX12 186 yX12_isIn cX12_isIn 2 (some .boolean) 2 := ⟨wm_1246, wm_1247, wm_15, wm_1248, ⟨by decide +kernel, by decide +kernel⟩, by decide +kernel, by decide⟩
theorem wm_1253 : (Cond.methodLink "SmokeRingsModel" (190 : Nat) ({ cls := "SmokeRingsModel", name := "isCell", desc := "(I)Z" } : MethodName)) ∈ gW := mem_t6 53 (by decide +kernel) (by decide +kernel)
theorem wm_1256 : (Cond.code ({ cls := "SmokeRingsModel", name := "isCell", desc := "(I)Z" } : MethodName) prog_14_method_32_code (2 : Nat) (Option.some FieldType.boolean)) ∈ gW := mem_t6 56 (by decide +kernel) (by decide +kernel)
theorem wm_1255 : (Cond.instanceMethod ({ cls := "SmokeRingsModel", name := "isCell", desc := "(I)Z" } : MethodName)) ∈ gW := mem_t6 55 (by decide +kernel) (by decide +kernel)
theorem pv_X12_isCell : Cond.selects yX12_isCell.cls yX12_isCell yX12_isCell ∈ gW := mem_prv (n := 32) (by decide +kernel) (by decide +kernel)
theorem mv_RX12_190 : sr_MV RX12 190 yX12_isCell cX12_isCell 2 (some .boolean) 1 12 := ⟨⟨(RX12, TX12, 32), rfl, rfl⟩, wm_1253, wm_1255, pv_X12_isCell, wm_15, wm_1256, ⟨by decide +kernel, by decide +kernel⟩, by decide +kernel, by decide⟩
theorem wm_1269 : (Cond.methodLink "SmokeRingsModel" (199 : Nat) ({ cls := "SmokeRingsModel", name := "fits", desc := "(II)Z" } : MethodName)) ∈ gW := mem_t6 69 (by decide +kernel) (by decide +kernel)
theorem wm_1272 : (Cond.code ({ cls := "SmokeRingsModel", name := "fits", desc := "(II)Z" } : MethodName) prog_14_method_51_code (4 : Nat) (Option.some FieldType.boolean)) ∈ gW := mem_t6 72 (by decide +kernel) (by decide +kernel)
theorem wm_1271 : (Cond.instanceMethod ({ cls := "SmokeRingsModel", name := "fits", desc := "(II)Z" } : MethodName)) ∈ gW := mem_t6 71 (by decide +kernel) (by decide +kernel)
theorem pv_X12_fits : Cond.selects yX12_fits.cls yX12_fits yX12_fits ∈ gW := mem_prv (n := 32) (by decide +kernel) (by decide +kernel)
theorem mv_RX12_199 : sr_MV RX12 199 yX12_fits cX12_fits 4 (some .boolean) 2 12 := ⟨⟨(RX12, TX12, 32), rfl, rfl⟩, wm_1269, wm_1271, pv_X12_fits, wm_15, wm_1272, ⟨by decide +kernel, by decide +kernel⟩, by decide +kernel, by decide⟩
theorem wm_1234 : (Cond.methodLink "SmokeRingsModel" (202 : Nat) ({ cls := "SmokeRingsModel", name := "moves", desc := "(II)V" } : MethodName)) ∈ gW := mem_t6 34 (by decide +kernel) (by decide +kernel)
theorem wm_1237 : (Cond.code ({ cls := "SmokeRingsModel", name := "moves", desc := "(II)V" } : MethodName) prog_14_method_47_code (4 : Nat) (Option.none : Option FieldType)) ∈ gW := mem_t6 37 (by decide +kernel) (by decide +kernel)
theorem wm_1236 : (Cond.instanceMethod ({ cls := "SmokeRingsModel", name := "moves", desc := "(II)V" } : MethodName)) ∈ gW := mem_t6 36 (by decide +kernel) (by decide +kernel)
theorem pv_X12_moves : Cond.selects yX12_moves.cls yX12_moves yX12_moves ∈ gW := mem_prv (n := 32) (by decide +kernel) (by decide +kernel)
theorem mv_RX12_202 : sr_MV RX12 202 yX12_moves cX12_moves 4 none 2 12 := ⟨⟨(RX12, TX12, 32), rfl, rfl⟩, wm_1234, wm_1236, pv_X12_moves, wm_15, wm_1237, ⟨by decide +kernel, by decide +kernel⟩, by decide +kernel, by decide⟩
theorem wm_1249 : (Cond.methodLink "SmokeRingsModel" (208 : Nat) ({ cls := "SmokeRingsModel", name := "isBlown", desc := "(I)V" } : MethodName)) ∈ gW := mem_t6 49 (by decide +kernel) (by decide +kernel)
theorem wm_1252 : (Cond.code ({ cls := "SmokeRingsModel", name := "isBlown", desc := "(I)V" } : MethodName) prog_14_method_48_code (3 : Nat) (Option.none : Option FieldType)) ∈ gW := mem_t6 52 (by decide +kernel) (by decide +kernel)
theorem wm_1251 : (Cond.instanceMethod ({ cls := "SmokeRingsModel", name := "isBlown", desc := "(I)V" } : MethodName)) ∈ gW := mem_t6 51 (by decide +kernel) (by decide +kernel)
theorem pv_X12_isBlown : Cond.selects yX12_isBlown.cls yX12_isBlown yX12_isBlown ∈ gW := mem_prv (n := 32) (by decide +kernel) (by decide +kernel)
theorem mv_RX12_208 : sr_MV RX12 208 yX12_isBlown cX12_isBlown 3 none 1 12 := ⟨⟨(RX12, TX12, 32), rfl, rfl⟩, wm_1249, wm_1251, pv_X12_isBlown, wm_15, wm_1252, ⟨by decide +kernel, by decide +kernel⟩, by decide +kernel, by decide⟩
theorem wm_1257 : (Cond.methodLink "SmokeRingsModel" (212 : Nat) ({ cls := "SmokeRingsModel", name := "grows", desc := "(II)V" } : MethodName)) ∈ gW := mem_t6 57 (by decide +kernel) (by decide +kernel)
theorem wm_1260 : (Cond.code ({ cls := "SmokeRingsModel", name := "grows", desc := "(II)V" } : MethodName) prog_14_method_49_code (3 : Nat) (Option.none : Option FieldType)) ∈ gW := mem_t6 60 (by decide +kernel) (by decide +kernel)
theorem wm_1259 : (Cond.instanceMethod ({ cls := "SmokeRingsModel", name := "grows", desc := "(II)V" } : MethodName)) ∈ gW := mem_t6 59 (by decide +kernel) (by decide +kernel)
theorem pv_X12_grows : Cond.selects yX12_grows.cls yX12_grows yX12_grows ∈ gW := mem_prv (n := 32) (by decide +kernel) (by decide +kernel)
theorem mv_RX12_212 : sr_MV RX12 212 yX12_grows cX12_grows 3 none 2 12 := ⟨⟨(RX12, TX12, 32), rfl, rfl⟩, wm_1257, wm_1259, pv_X12_grows, wm_15, wm_1260, ⟨by decide +kernel, by decide +kernel⟩, by decide +kernel, by decide⟩
theorem wm_1261 : (Cond.methodLink "SmokeRingsModel" (215 : Nat) ({ cls := "SmokeRingsModel", name := "meet", desc := "(I)V" } : MethodName)) ∈ gW := mem_t6 61 (by decide +kernel) (by decide +kernel)
theorem wm_1264 : (Cond.code ({ cls := "SmokeRingsModel", name := "meet", desc := "(I)V" } : MethodName) prog_14_method_50_code (7 : Nat) (Option.none : Option FieldType)) ∈ gW := mem_t6 64 (by decide +kernel) (by decide +kernel)
theorem wm_1263 : (Cond.instanceMethod ({ cls := "SmokeRingsModel", name := "meet", desc := "(I)V" } : MethodName)) ∈ gW := mem_t6 63 (by decide +kernel) (by decide +kernel)
theorem pv_X12_meet : Cond.selects yX12_meet.cls yX12_meet yX12_meet ∈ gW := mem_prv (n := 32) (by decide +kernel) (by decide +kernel)
theorem mv_RX12_215 : sr_MV RX12 215 yX12_meet cX12_meet 7 none 1 12 := ⟨⟨(RX12, TX12, 32), rfl, rfl⟩, wm_1261, wm_1263, pv_X12_meet, wm_15, wm_1264, ⟨by decide +kernel, by decide +kernel⟩, by decide +kernel, by decide⟩
theorem wm_1265 : (Cond.methodLink "SmokeRingsModel" (218 : Nat) ({ cls := "SmokeRingsModel", name := "falls", desc := "(II)V" } : MethodName)) ∈ gW := mem_t6 65 (by decide +kernel) (by decide +kernel)
theorem wm_1268 : (Cond.code ({ cls := "SmokeRingsModel", name := "falls", desc := "(II)V" } : MethodName) prog_14_method_52_code (4 : Nat) (Option.none : Option FieldType)) ∈ gW := mem_t6 68 (by decide +kernel) (by decide +kernel)
theorem wm_1267 : (Cond.instanceMethod ({ cls := "SmokeRingsModel", name := "falls", desc := "(II)V" } : MethodName)) ∈ gW := mem_t6 67 (by decide +kernel) (by decide +kernel)
theorem pv_X12_falls : Cond.selects yX12_falls.cls yX12_falls yX12_falls ∈ gW := mem_prv (n := 32) (by decide +kernel) (by decide +kernel)
theorem mv_RX12_218 : sr_MV RX12 218 yX12_falls cX12_falls 4 none 2 12 := ⟨⟨(RX12, TX12, 32), rfl, rfl⟩, wm_1265, wm_1267, pv_X12_falls, wm_15, wm_1268, ⟨by decide +kernel, by decide +kernel⟩, by decide +kernel, by decide⟩
theorem wm_1273 : (Cond.methodLink "SmokeRingsModel" (221 : Nat) ({ cls := "SmokeRingsModel", name := "keeps", desc := "(I)V" } : MethodName)) ∈ gW := mem_t6 73 (by decide +kernel) (by decide +kernel)
theorem wm_1276 : (Cond.code ({ cls := "SmokeRingsModel", name := "keeps", desc := "(I)V" } : MethodName) prog_14_method_53_code (3 : Nat) (Option.none : Option FieldType)) ∈ gW := mem_t6 76 (by decide +kernel) (by decide +kernel)
theorem wm_1275 : (Cond.instanceMethod ({ cls := "SmokeRingsModel", name := "keeps", desc := "(I)V" } : MethodName)) ∈ gW := mem_t6 75 (by decide +kernel) (by decide +kernel)
theorem pv_X12_keeps : Cond.selects yX12_keeps.cls yX12_keeps yX12_keeps ∈ gW := mem_prv (n := 32) (by decide +kernel) (by decide +kernel)
theorem mv_RX12_221 : sr_MV RX12 221 yX12_keeps cX12_keeps 3 none 1 12 := ⟨⟨(RX12, TX12, 32), rfl, rfl⟩, wm_1273, wm_1275, pv_X12_keeps, wm_15, wm_1276, ⟨by decide +kernel, by decide +kernel⟩, by decide +kernel, by decide⟩
theorem wm_1230 : (Cond.methodLink "SmokeRingsModel" (224 : Nat) ({ cls := "SmokeRingsModel", name := "steps", desc := "(I)V" } : MethodName)) ∈ gW := mem_t6 30 (by decide +kernel) (by decide +kernel)
theorem wm_1233 : (Cond.code ({ cls := "SmokeRingsModel", name := "steps", desc := "(I)V" } : MethodName) prog_14_method_54_code (3 : Nat) (Option.none : Option FieldType)) ∈ gW := mem_t6 33 (by decide +kernel) (by decide +kernel)
theorem wm_1232 : (Cond.instanceMethod ({ cls := "SmokeRingsModel", name := "steps", desc := "(I)V" } : MethodName)) ∈ gW := mem_t6 32 (by decide +kernel) (by decide +kernel)
theorem pv_X12_steps : Cond.selects yX12_steps.cls yX12_steps yX12_steps ∈ gW := mem_prv (n := 32) (by decide +kernel) (by decide +kernel)
theorem mv_RX12_224 : sr_MV RX12 224 yX12_steps cX12_steps 3 none 1 12 := ⟨⟨(RX12, TX12, 32), rfl, rfl⟩, wm_1230, wm_1232, pv_X12_steps, wm_15, wm_1233, ⟨by decide +kernel, by decide +kernel⟩, by decide +kernel, by decide⟩
theorem wm_1226 : (Cond.methodLink "SmokeRingsModel" (227 : Nat) ({ cls := "SmokeRingsModel", name := "lives", desc := "()V" } : MethodName)) ∈ gW := mem_t6 26 (by decide +kernel) (by decide +kernel)
theorem wm_1229 : (Cond.code ({ cls := "SmokeRingsModel", name := "lives", desc := "()V" } : MethodName) prog_14_method_55_code (2 : Nat) (Option.none : Option FieldType)) ∈ gW := mem_t6 29 (by decide +kernel) (by decide +kernel)
theorem wm_1228 : (Cond.instanceMethod ({ cls := "SmokeRingsModel", name := "lives", desc := "()V" } : MethodName)) ∈ gW := mem_t6 28 (by decide +kernel) (by decide +kernel)
theorem pv_X12_lives : Cond.selects yX12_lives.cls yX12_lives yX12_lives ∈ gW := mem_prv (n := 32) (by decide +kernel) (by decide +kernel)
theorem mv_RX12_227 : sr_MV RX12 227 yX12_lives cX12_lives 2 none 0 12 := ⟨⟨(RX12, TX12, 32), rfl, rfl⟩, wm_1226, wm_1228, pv_X12_lives, wm_15, wm_1229, ⟨by decide +kernel, by decide +kernel⟩, by decide +kernel, by decide⟩
theorem wm_1222 : (Cond.methodLink "SmokeRingsModel" (230 : Nat) ({ cls := "SmokeRingsModel", name := "find", desc := "()V" } : MethodName)) ∈ gW := mem_t6 22 (by decide +kernel) (by decide +kernel)
theorem wm_1225 : (Cond.code ({ cls := "SmokeRingsModel", name := "find", desc := "()V" } : MethodName) prog_14_method_56_code (1 : Nat) (Option.none : Option FieldType)) ∈ gW := mem_t6 25 (by decide +kernel) (by decide +kernel)
theorem wm_1224 : (Cond.instanceMethod ({ cls := "SmokeRingsModel", name := "find", desc := "()V" } : MethodName)) ∈ gW := mem_t6 24 (by decide +kernel) (by decide +kernel)
theorem pv_X12_find : Cond.selects yX12_find.cls yX12_find yX12_find ∈ gW := mem_prv (n := 32) (by decide +kernel) (by decide +kernel)
theorem mv_RX12_230 : sr_MV RX12 230 yX12_find cX12_find 1 none 0 12 := ⟨⟨(RX12, TX12, 32), rfl, rfl⟩, wm_1222, wm_1224, pv_X12_find, wm_15, wm_1225, ⟨by decide +kernel, by decide +kernel⟩, by decide +kernel, by decide⟩
theorem wm_1285 : (Cond.methodLink "SmokeRingsModel" (233 : Nat) ({ cls := "SmokeRingsModel", name := "whomOf", desc := "(I)I" } : MethodName)) ∈ gW := mem_t6 85 (by decide +kernel) (by decide +kernel)
theorem wm_1288 : (Cond.code ({ cls := "SmokeRingsModel", name := "whomOf", desc := "(I)I" } : MethodName) prog_14_method_58_code (2 : Nat) (Option.some FieldType.int)) ∈ gW := mem_t6 88 (by decide +kernel) (by decide +kernel)
theorem wm_1287 : (Cond.instanceMethod ({ cls := "SmokeRingsModel", name := "whomOf", desc := "(I)I" } : MethodName)) ∈ gW := mem_t6 87 (by decide +kernel) (by decide +kernel)
theorem pv_X12_whomOf : Cond.selects yX12_whomOf.cls yX12_whomOf yX12_whomOf ∈ gW := mem_prv (n := 32) (by decide +kernel) (by decide +kernel)
theorem mv_RX12_233 : sr_MV RX12 233 yX12_whomOf cX12_whomOf 2 (some .int) 1 12 := ⟨⟨(RX12, TX12, 32), rfl, rfl⟩, wm_1285, wm_1287, pv_X12_whomOf, wm_15, wm_1288, ⟨by decide +kernel, by decide +kernel⟩, by decide +kernel, by decide⟩
theorem wm_1281 : (Cond.methodLink "SmokeRingsModel" (236 : Nat) ({ cls := "SmokeRingsModel", name := "boundOf", desc := "(II)I" } : MethodName)) ∈ gW := mem_t6 81 (by decide +kernel) (by decide +kernel)
theorem wm_1284 : (Cond.code ({ cls := "SmokeRingsModel", name := "boundOf", desc := "(II)I" } : MethodName) prog_14_method_59_code (3 : Nat) (Option.some FieldType.int)) ∈ gW := mem_t6 84 (by decide +kernel) (by decide +kernel)
theorem wm_1283 : (Cond.instanceMethod ({ cls := "SmokeRingsModel", name := "boundOf", desc := "(II)I" } : MethodName)) ∈ gW := mem_t6 83 (by decide +kernel) (by decide +kernel)
theorem pv_X12_boundOf : Cond.selects yX12_boundOf.cls yX12_boundOf yX12_boundOf ∈ gW := mem_prv (n := 32) (by decide +kernel) (by decide +kernel)
theorem mv_RX12_236 : sr_MV RX12 236 yX12_boundOf cX12_boundOf 3 (some .int) 2 12 := ⟨⟨(RX12, TX12, 32), rfl, rfl⟩, wm_1281, wm_1283, pv_X12_boundOf, wm_15, wm_1284, ⟨by decide +kernel, by decide +kernel⟩, by decide +kernel, by decide⟩
theorem wm_1300 : (Cond.methodLink "SmokeRingsModel" (239 : Nat) ({ cls := "SmokeRingsModel", name := "upkeep", desc := "(I)I" } : MethodName)) ∈ gW := mem_t6 100 (by decide +kernel) (by decide +kernel)
theorem wm_1303 : (Cond.code ({ cls := "SmokeRingsModel", name := "upkeep", desc := "(I)I" } : MethodName) prog_14_method_61_code (2 : Nat) (Option.some FieldType.int)) ∈ gW := mem_t6 103 (by decide +kernel) (by decide +kernel)
theorem wm_1302 : (Cond.instanceMethod ({ cls := "SmokeRingsModel", name := "upkeep", desc := "(I)I" } : MethodName)) ∈ gW := mem_t6 102 (by decide +kernel) (by decide +kernel)
theorem pv_X12_upkeep : Cond.selects yX12_upkeep.cls yX12_upkeep yX12_upkeep ∈ gW := mem_prv (n := 32) (by decide +kernel) (by decide +kernel)
theorem mv_RX12_239 : sr_MV RX12 239 yX12_upkeep cX12_upkeep 2 (some .int) 1 12 := ⟨⟨(RX12, TX12, 32), rfl, rfl⟩, wm_1300, wm_1302, pv_X12_upkeep, wm_15, wm_1303, ⟨by decide +kernel, by decide +kernel⟩, by decide +kernel, by decide⟩
theorem wm_1293 : (Cond.methodLink "SmokeRingsModel" (242 : Nat) ({ cls := "SmokeRingsModel", name := "isTwo", desc := "(I)Z" } : MethodName)) ∈ gW := mem_t6 93 (by decide +kernel) (by decide +kernel)
theorem wm_1295 : (Cond.code ({ cls := "SmokeRingsModel", name := "isTwo", desc := "(I)Z" } : MethodName) prog_14_method_5_code (1 : Nat) (Option.some FieldType.boolean)) ∈ gW := mem_t6 95 (by decide +kernel) (by decide +kernel)
theorem wm_1294 : (Cond.static ({ cls := "SmokeRingsModel", name := "isTwo", desc := "(I)Z" } : MethodName)) ∈ gW := mem_t6 94 (by decide +kernel) (by decide +kernel)
theorem ms_RX12_242 : sr_MS RX12 242 yX12_isTwo cX12_isTwo 1 (some .boolean) 1 := ⟨wm_1293, wm_1294, wm_15, wm_1295, ⟨by decide +kernel, by decide +kernel⟩, by decide +kernel, by decide⟩
theorem wm_1296 : (Cond.methodLink "SmokeRingsModel" (245 : Nat) ({ cls := "SmokeRingsModel", name := "wedOf", desc := "(II)I" } : MethodName)) ∈ gW := mem_t6 96 (by decide +kernel) (by decide +kernel)
theorem wm_1299 : (Cond.code ({ cls := "SmokeRingsModel", name := "wedOf", desc := "(II)I" } : MethodName) prog_14_method_62_code (6 : Nat) (Option.some FieldType.int)) ∈ gW := mem_t6 99 (by decide +kernel) (by decide +kernel)
theorem wm_1298 : (Cond.instanceMethod ({ cls := "SmokeRingsModel", name := "wedOf", desc := "(II)I" } : MethodName)) ∈ gW := mem_t6 98 (by decide +kernel) (by decide +kernel)
theorem pv_X12_wedOf : Cond.selects yX12_wedOf.cls yX12_wedOf yX12_wedOf ∈ gW := mem_prv (n := 32) (by decide +kernel) (by decide +kernel)
theorem mv_RX12_245 : sr_MV RX12 245 yX12_wedOf cX12_wedOf 6 (some .int) 2 12 := ⟨⟨(RX12, TX12, 32), rfl, rfl⟩, wm_1296, wm_1298, pv_X12_wedOf, wm_15, wm_1299, ⟨by decide +kernel, by decide +kernel⟩, by decide +kernel, by decide⟩
theorem wm_1312 : (Cond.methodLink "SmokeRingsModel" (248 : Nat) ({ cls := "SmokeRingsModel", name := "missedNow", desc := "()I" } : MethodName)) ∈ gW := mem_t6 112 (by decide +kernel) (by decide +kernel)
theorem wm_1315 : (Cond.code ({ cls := "SmokeRingsModel", name := "missedNow", desc := "()I" } : MethodName) prog_14_method_65_code (3 : Nat) (Option.some FieldType.int)) ∈ gW := mem_t6 115 (by decide +kernel) (by decide +kernel)
theorem wm_1314 : (Cond.instanceMethod ({ cls := "SmokeRingsModel", name := "missedNow", desc := "()I" } : MethodName)) ∈ gW := mem_t6 114 (by decide +kernel) (by decide +kernel)
theorem pv_X12_missedNow : Cond.selects yX12_missedNow.cls yX12_missedNow yX12_missedNow ∈ gW := mem_prv (n := 32) (by decide +kernel) (by decide +kernel)
theorem mv_RX12_248 : sr_MV RX12 248 yX12_missedNow cX12_missedNow 3 (some .int) 0 12 := ⟨⟨(RX12, TX12, 32), rfl, rfl⟩, wm_1312, wm_1314, pv_X12_missedNow, wm_15, wm_1315, ⟨by decide +kernel, by decide +kernel⟩, by decide +kernel, by decide⟩
theorem wm_1324 : (Cond.methodLink "SmokeRingsModel" (251 : Nat) ({ cls := "SmokeRingsModel", name := "ones", desc := "(I)I" } : MethodName)) ∈ gW := mem_t6 124 (by decide +kernel) (by decide +kernel)
theorem wm_1326 : (Cond.code ({ cls := "SmokeRingsModel", name := "ones", desc := "(I)I" } : MethodName) prog_14_method_7_code (3 : Nat) (Option.some FieldType.int)) ∈ gW := mem_t6 126 (by decide +kernel) (by decide +kernel)
theorem wm_1325 : (Cond.static ({ cls := "SmokeRingsModel", name := "ones", desc := "(I)I" } : MethodName)) ∈ gW := mem_t6 125 (by decide +kernel) (by decide +kernel)
theorem ms_RX12_251 : sr_MS RX12 251 yX12_ones cX12_ones 3 (some .int) 1 := ⟨wm_1324, wm_1325, wm_15, wm_1326, ⟨by decide +kernel, by decide +kernel⟩, by decide +kernel, by decide⟩
theorem wm_1327 : (Cond.methodLink "SmokeRingsModel" (254 : Nat) ({ cls := "SmokeRingsModel", name := "greater", desc := "(II)I" } : MethodName)) ∈ gW := mem_t6 127 (by decide +kernel) (by decide +kernel)
theorem wm_1329 : (Cond.code ({ cls := "SmokeRingsModel", name := "greater", desc := "(II)I" } : MethodName) prog_14_method_9_code (2 : Nat) (Option.some FieldType.int)) ∈ gW := mem_t6 129 (by decide +kernel) (by decide +kernel)
theorem wm_1328 : (Cond.static ({ cls := "SmokeRingsModel", name := "greater", desc := "(II)I" } : MethodName)) ∈ gW := mem_t6 128 (by decide +kernel) (by decide +kernel)
theorem ms_RX12_254 : sr_MS RX12 254 yX12_greater cX12_greater 2 (some .int) 2 := ⟨wm_1327, wm_1328, wm_15, wm_1329, ⟨by decide +kernel, by decide +kernel⟩, by decide +kernel, by decide⟩
theorem wm_1320 : (Cond.methodLink "SmokeRingsModel" (257 : Nat) ({ cls := "SmokeRingsModel", name := "richestNow", desc := "()I" } : MethodName)) ∈ gW := mem_t6 120 (by decide +kernel) (by decide +kernel)
theorem wm_1323 : (Cond.code ({ cls := "SmokeRingsModel", name := "richestNow", desc := "()I" } : MethodName) prog_14_method_67_code (5 : Nat) (Option.some FieldType.int)) ∈ gW := mem_t6 123 (by decide +kernel) (by decide +kernel)
theorem wm_1322 : (Cond.instanceMethod ({ cls := "SmokeRingsModel", name := "richestNow", desc := "()I" } : MethodName)) ∈ gW := mem_t6 122 (by decide +kernel) (by decide +kernel)
theorem pv_X12_richestNow : Cond.selects yX12_richestNow.cls yX12_richestNow yX12_richestNow ∈ gW := mem_prv (n := 32) (by decide +kernel) (by decide +kernel)
theorem mv_RX12_257 : sr_MV RX12 257 yX12_richestNow cX12_richestNow 5 (some .int) 0 12 := ⟨⟨(RX12, TX12, 32), rfl, rfl⟩, wm_1320, wm_1322, pv_X12_richestNow, wm_15, wm_1323, ⟨by decide +kernel, by decide +kernel⟩, by decide +kernel, by decide⟩
theorem wm_1334 : (Cond.methodLink "SmokeRingsModel" (260 : Nat) ({ cls := "SmokeRingsModel", name := "lonelyNow", desc := "()I" } : MethodName)) ∈ gW := mem_t6 134 (by decide +kernel) (by decide +kernel)
theorem wm_1337 : (Cond.code ({ cls := "SmokeRingsModel", name := "lonelyNow", desc := "()I" } : MethodName) prog_14_method_69_code (4 : Nat) (Option.some FieldType.int)) ∈ gW := mem_t6 137 (by decide +kernel) (by decide +kernel)
theorem wm_1336 : (Cond.instanceMethod ({ cls := "SmokeRingsModel", name := "lonelyNow", desc := "()I" } : MethodName)) ∈ gW := mem_t6 136 (by decide +kernel) (by decide +kernel)
theorem pv_X12_lonelyNow : Cond.selects yX12_lonelyNow.cls yX12_lonelyNow yX12_lonelyNow ∈ gW := mem_prv (n := 32) (by decide +kernel) (by decide +kernel)
theorem mv_RX12_260 : sr_MV RX12 260 yX12_lonelyNow cX12_lonelyNow 4 (some .int) 0 12 := ⟨⟨(RX12, TX12, 32), rfl, rfl⟩, wm_1334, wm_1336, pv_X12_lonelyNow, wm_15, wm_1337, ⟨by decide +kernel, by decide +kernel⟩, by decide +kernel, by decide⟩
theorem wm_1342 : (Cond.methodLink "SmokeRingsModel" (263 : Nat) ({ cls := "SmokeRingsModel", name := "breathOf", desc := "(II)I" } : MethodName)) ∈ gW := mem_t6 142 (by decide +kernel) (by decide +kernel)
theorem wm_1345 : (Cond.code ({ cls := "SmokeRingsModel", name := "breathOf", desc := "(II)I" } : MethodName) prog_14_method_72_code (6 : Nat) (Option.some FieldType.int)) ∈ gW := mem_t6 145 (by decide +kernel) (by decide +kernel)
theorem wm_1344 : (Cond.instanceMethod ({ cls := "SmokeRingsModel", name := "breathOf", desc := "(II)I" } : MethodName)) ∈ gW := mem_t6 144 (by decide +kernel) (by decide +kernel)
theorem pv_X12_breathOf : Cond.selects yX12_breathOf.cls yX12_breathOf yX12_breathOf ∈ gW := mem_prv (n := 32) (by decide +kernel) (by decide +kernel)
theorem mv_RX12_263 : sr_MV RX12 263 yX12_breathOf cX12_breathOf 6 (some .int) 2 12 := ⟨⟨(RX12, TX12, 32), rfl, rfl⟩, wm_1342, wm_1344, pv_X12_breathOf, wm_15, wm_1345, ⟨by decide +kernel, by decide +kernel⟩, by decide +kernel, by decide⟩
theorem wm_1354 : (Cond.methodLink "SmokeRingsModel" (266 : Nat) ({ cls := "SmokeRingsModel", name := "allBound", desc := "()I" } : MethodName)) ∈ gW := mem_t6 154 (by decide +kernel) (by decide +kernel)
theorem wm_1357 : (Cond.code ({ cls := "SmokeRingsModel", name := "allBound", desc := "()I" } : MethodName) prog_14_method_71_code (3 : Nat) (Option.some FieldType.int)) ∈ gW := mem_t6 157 (by decide +kernel) (by decide +kernel)
theorem wm_1356 : (Cond.instanceMethod ({ cls := "SmokeRingsModel", name := "allBound", desc := "()I" } : MethodName)) ∈ gW := mem_t6 156 (by decide +kernel) (by decide +kernel)
theorem pv_X12_allBound : Cond.selects yX12_allBound.cls yX12_allBound yX12_allBound ∈ gW := mem_prv (n := 32) (by decide +kernel) (by decide +kernel)
theorem mv_RX12_266 : sr_MV RX12 266 yX12_allBound cX12_allBound 3 (some .int) 0 12 := ⟨⟨(RX12, TX12, 32), rfl, rfl⟩, wm_1354, wm_1356, pv_X12_allBound, wm_15, wm_1357, ⟨by decide +kernel, by decide +kernel⟩, by decide +kernel, by decide⟩
theorem wm_1350 : (Cond.methodLink "SmokeRingsModel" (269 : Nat) ({ cls := "SmokeRingsModel", name := "aimOf", desc := "(II)I" } : MethodName)) ∈ gW := mem_t6 150 (by decide +kernel) (by decide +kernel)
theorem wm_1353 : (Cond.code ({ cls := "SmokeRingsModel", name := "aimOf", desc := "(II)I" } : MethodName) prog_14_method_74_code (9 : Nat) (Option.some FieldType.int)) ∈ gW := mem_t6 153 (by decide +kernel) (by decide +kernel)
theorem wm_1352 : (Cond.instanceMethod ({ cls := "SmokeRingsModel", name := "aimOf", desc := "(II)I" } : MethodName)) ∈ gW := mem_t6 152 (by decide +kernel) (by decide +kernel)
theorem pv_X12_aimOf : Cond.selects yX12_aimOf.cls yX12_aimOf yX12_aimOf ∈ gW := mem_prv (n := 32) (by decide +kernel) (by decide +kernel)
theorem mv_RX12_269 : sr_MV RX12 269 yX12_aimOf cX12_aimOf 9 (some .int) 2 12 := ⟨⟨(RX12, TX12, 32), rfl, rfl⟩, wm_1350, wm_1352, pv_X12_aimOf, wm_15, wm_1353, ⟨by decide +kernel, by decide +kernel⟩, by decide +kernel, by decide⟩
theorem wm_1362 : (Cond.methodLink "SmokeRingsModel" (272 : Nat) ({ cls := "SmokeRingsModel", name := "standOf", desc := "(I)I" } : MethodName)) ∈ gW := mem_t6 162 (by decide +kernel) (by decide +kernel)
theorem wm_1365 : (Cond.code ({ cls := "SmokeRingsModel", name := "standOf", desc := "(I)I" } : MethodName) prog_14_method_76_code (5 : Nat) (Option.some FieldType.int)) ∈ gW := mem_t6 165 (by decide +kernel) (by decide +kernel)
theorem wm_1364 : (Cond.instanceMethod ({ cls := "SmokeRingsModel", name := "standOf", desc := "(I)I" } : MethodName)) ∈ gW := mem_t6 164 (by decide +kernel) (by decide +kernel)
theorem pv_X12_standOf : Cond.selects yX12_standOf.cls yX12_standOf yX12_standOf ∈ gW := mem_prv (n := 32) (by decide +kernel) (by decide +kernel)
theorem mv_RX12_272 : sr_MV RX12 272 yX12_standOf cX12_standOf 5 (some .int) 1 12 := ⟨⟨(RX12, TX12, 32), rfl, rfl⟩, wm_1362, wm_1364, pv_X12_standOf, wm_15, wm_1365, ⟨by decide +kernel, by decide +kernel⟩, by decide +kernel, by decide⟩
theorem wm_1375 : (Cond.methodLink "SmokeRingsModel" (275 : Nat) ({ cls := "SmokeRingsModel", name := "isSpared", desc := "(II)Z" } : MethodName)) ∈ gW := mem_t6 175 (by decide +kernel) (by decide +kernel)
theorem wm_1378 : (Cond.code ({ cls := "SmokeRingsModel", name := "isSpared", desc := "(II)Z" } : MethodName) prog_14_method_78_code (3 : Nat) (Option.some FieldType.boolean)) ∈ gW := mem_t6 178 (by decide +kernel) (by decide +kernel)
theorem wm_1377 : (Cond.instanceMethod ({ cls := "SmokeRingsModel", name := "isSpared", desc := "(II)Z" } : MethodName)) ∈ gW := mem_t6 177 (by decide +kernel) (by decide +kernel)
theorem pv_X12_isSpared : Cond.selects yX12_isSpared.cls yX12_isSpared yX12_isSpared ∈ gW := mem_prv (n := 32) (by decide +kernel) (by decide +kernel)
theorem mv_RX12_275 : sr_MV RX12 275 yX12_isSpared cX12_isSpared 3 (some .boolean) 2 12 := ⟨⟨(RX12, TX12, 32), rfl, rfl⟩, wm_1375, wm_1377, pv_X12_isSpared, wm_15, wm_1378, ⟨by decide +kernel, by decide +kernel⟩, by decide +kernel, by decide⟩
theorem wm_1371 : (Cond.methodLink "SmokeRingsModel" (280 : Nat) ({ cls := "SmokeRingsModel", name := "hushOf", desc := "(II)I" } : MethodName)) ∈ gW := mem_t6 171 (by decide +kernel) (by decide +kernel)
theorem wm_1374 : (Cond.code ({ cls := "SmokeRingsModel", name := "hushOf", desc := "(II)I" } : MethodName) prog_14_method_79_code (5 : Nat) (Option.some FieldType.int)) ∈ gW := mem_t6 174 (by decide +kernel) (by decide +kernel)
theorem wm_1373 : (Cond.instanceMethod ({ cls := "SmokeRingsModel", name := "hushOf", desc := "(II)I" } : MethodName)) ∈ gW := mem_t6 173 (by decide +kernel) (by decide +kernel)
theorem pv_X12_hushOf : Cond.selects yX12_hushOf.cls yX12_hushOf yX12_hushOf ∈ gW := mem_prv (n := 32) (by decide +kernel) (by decide +kernel)
theorem mv_RX12_280 : sr_MV RX12 280 yX12_hushOf cX12_hushOf 5 (some .int) 2 12 := ⟨⟨(RX12, TX12, 32), rfl, rfl⟩, wm_1371, wm_1373, pv_X12_hushOf, wm_15, wm_1374, ⟨by decide +kernel, by decide +kernel⟩, by decide +kernel, by decide⟩
theorem wm_1383 : (Cond.methodLink "SmokeRingsModel" (283 : Nat) ({ cls := "SmokeRingsModel", name := "calmBy", desc := "(I)I" } : MethodName)) ∈ gW := mem_t6 183 (by decide +kernel) (by decide +kernel)
theorem wm_1386 : (Cond.code ({ cls := "SmokeRingsModel", name := "calmBy", desc := "(I)I" } : MethodName) prog_14_method_81_code (6 : Nat) (Option.some FieldType.int)) ∈ gW := mem_t6 186 (by decide +kernel) (by decide +kernel)
theorem wm_1385 : (Cond.instanceMethod ({ cls := "SmokeRingsModel", name := "calmBy", desc := "(I)I" } : MethodName)) ∈ gW := mem_t6 185 (by decide +kernel) (by decide +kernel)
theorem pv_X12_calmBy : Cond.selects yX12_calmBy.cls yX12_calmBy yX12_calmBy ∈ gW := mem_prv (n := 32) (by decide +kernel) (by decide +kernel)
theorem mv_RX12_283 : sr_MV RX12 283 yX12_calmBy cX12_calmBy 6 (some .int) 1 12 := ⟨⟨(RX12, TX12, 32), rfl, rfl⟩, wm_1383, wm_1385, pv_X12_calmBy, wm_15, wm_1386, ⟨by decide +kernel, by decide +kernel⟩, by decide +kernel, by decide⟩
theorem wm_1396 : (Cond.methodLink "SmokeRingsModel" (286 : Nat) ({ cls := "SmokeRingsModel", name := "costOf", desc := "(II)I" } : MethodName)) ∈ gW := mem_t6 196 (by decide +kernel) (by decide +kernel)
theorem wm_1399 : (Cond.code ({ cls := "SmokeRingsModel", name := "costOf", desc := "(II)I" } : MethodName) prog_14_method_83_code (3 : Nat) (Option.some FieldType.int)) ∈ gW := mem_t6 199 (by decide +kernel) (by decide +kernel)
theorem wm_1398 : (Cond.instanceMethod ({ cls := "SmokeRingsModel", name := "costOf", desc := "(II)I" } : MethodName)) ∈ gW := mem_t6 198 (by decide +kernel) (by decide +kernel)
theorem pv_X12_costOf : Cond.selects yX12_costOf.cls yX12_costOf yX12_costOf ∈ gW := mem_prv (n := 32) (by decide +kernel) (by decide +kernel)
theorem mv_RX12_286 : sr_MV RX12 286 yX12_costOf cX12_costOf 3 (some .int) 2 12 := ⟨⟨(RX12, TX12, 32), rfl, rfl⟩, wm_1396, wm_1398, pv_X12_costOf, wm_15, wm_1399, ⟨by decide +kernel, by decide +kernel⟩, by decide +kernel, by decide⟩
theorem wm_1392 : (Cond.methodLink "SmokeRingsModel" (291 : Nat) ({ cls := "SmokeRingsModel", name := "freeOf", desc := "(III)I" } : MethodName)) ∈ gW := mem_t6 192 (by decide +kernel) (by decide +kernel)
theorem wm_1395 : (Cond.code ({ cls := "SmokeRingsModel", name := "freeOf", desc := "(III)I" } : MethodName) prog_14_method_84_code (8 : Nat) (Option.some FieldType.int)) ∈ gW := mem_t6 195 (by decide +kernel) (by decide +kernel)
theorem wm_1394 : (Cond.instanceMethod ({ cls := "SmokeRingsModel", name := "freeOf", desc := "(III)I" } : MethodName)) ∈ gW := mem_t6 194 (by decide +kernel) (by decide +kernel)
theorem pv_X12_freeOf : Cond.selects yX12_freeOf.cls yX12_freeOf yX12_freeOf ∈ gW := mem_prv (n := 32) (by decide +kernel) (by decide +kernel)
theorem mv_RX12_291 : sr_MV RX12 291 yX12_freeOf cX12_freeOf 8 (some .int) 3 12 := ⟨⟨(RX12, TX12, 32), rfl, rfl⟩, wm_1392, wm_1394, pv_X12_freeOf, wm_15, wm_1395, ⟨by decide +kernel, by decide +kernel⟩, by decide +kernel, by decide⟩
theorem wm_1417 : (Cond.methodLink "SmokeRingsModel" (299 : Nat) ({ cls := "SmokeRingsModel", name := "isSeen", desc := "()Z" } : MethodName)) ∈ gW := mem_t6 217 (by decide +kernel) (by decide +kernel)
theorem wm_1420 : (Cond.code ({ cls := "SmokeRingsModel", name := "isSeen", desc := "()Z" } : MethodName) prog_14_method_88_code (4 : Nat) (Option.some FieldType.boolean)) ∈ gW := mem_t6 220 (by decide +kernel) (by decide +kernel)
theorem wm_1419 : (Cond.instanceMethod ({ cls := "SmokeRingsModel", name := "isSeen", desc := "()Z" } : MethodName)) ∈ gW := mem_t6 219 (by decide +kernel) (by decide +kernel)
theorem pv_X12_isSeen : Cond.selects yX12_isSeen.cls yX12_isSeen yX12_isSeen ∈ gW := mem_prv (n := 32) (by decide +kernel) (by decide +kernel)
theorem mv_RX12_299 : sr_MV RX12 299 yX12_isSeen cX12_isSeen 4 (some .boolean) 0 12 := ⟨⟨(RX12, TX12, 32), rfl, rfl⟩, wm_1417, wm_1419, pv_X12_isSeen, wm_15, wm_1420, ⟨by decide +kernel, by decide +kernel⟩, by decide +kernel, by decide⟩
theorem wm_1413 : (Cond.methodLink "SmokeRingsModel" (303 : Nat) ({ cls := "SmokeRingsModel", name := "neverNow", desc := "()I" } : MethodName)) ∈ gW := mem_t6 213 (by decide +kernel) (by decide +kernel)
theorem wm_1416 : (Cond.code ({ cls := "SmokeRingsModel", name := "neverNow", desc := "()I" } : MethodName) prog_14_method_89_code (3 : Nat) (Option.some FieldType.int)) ∈ gW := mem_t6 216 (by decide +kernel) (by decide +kernel)
theorem wm_1415 : (Cond.instanceMethod ({ cls := "SmokeRingsModel", name := "neverNow", desc := "()I" } : MethodName)) ∈ gW := mem_t6 215 (by decide +kernel) (by decide +kernel)
theorem pv_X12_neverNow : Cond.selects yX12_neverNow.cls yX12_neverNow yX12_neverNow ∈ gW := mem_prv (n := 32) (by decide +kernel) (by decide +kernel)
theorem mv_RX12_303 : sr_MV RX12 303 yX12_neverNow cX12_neverNow 3 (some .int) 0 12 := ⟨⟨(RX12, TX12, 32), rfl, rfl⟩, wm_1413, wm_1415, pv_X12_neverNow, wm_15, wm_1416, ⟨by decide +kernel, by decide +kernel⟩, by decide +kernel, by decide⟩
theorem wm_1425 : (Cond.methodLink "SmokeRingsModel" (306 : Nat) ({ cls := "SmokeRingsModel", name := "whenceOf", desc := "(II)I" } : MethodName)) ∈ gW := mem_t6 225 (by decide +kernel) (by decide +kernel)
theorem wm_1428 : (Cond.code ({ cls := "SmokeRingsModel", name := "whenceOf", desc := "(II)I" } : MethodName) prog_14_method_91_code (8 : Nat) (Option.some FieldType.int)) ∈ gW := mem_t6 228 (by decide +kernel) (by decide +kernel)
theorem wm_1427 : (Cond.instanceMethod ({ cls := "SmokeRingsModel", name := "whenceOf", desc := "(II)I" } : MethodName)) ∈ gW := mem_t6 227 (by decide +kernel) (by decide +kernel)
theorem pv_X12_whenceOf : Cond.selects yX12_whenceOf.cls yX12_whenceOf yX12_whenceOf ∈ gW := mem_prv (n := 32) (by decide +kernel) (by decide +kernel)
theorem mv_RX12_306 : sr_MV RX12 306 yX12_whenceOf cX12_whenceOf 8 (some .int) 2 12 := ⟨⟨(RX12, TX12, 32), rfl, rfl⟩, wm_1425, wm_1427, pv_X12_whenceOf, wm_15, wm_1428, ⟨by decide +kernel, by decide +kernel⟩, by decide +kernel, by decide⟩
theorem wm_1433 : (Cond.methodLink "SmokeRingsModel" (309 : Nat) ({ cls := "SmokeRingsModel", name := "pacesNow", desc := "()I" } : MethodName)) ∈ gW := mem_t6 233 (by decide +kernel) (by decide +kernel)
theorem wm_1436 : (Cond.code ({ cls := "SmokeRingsModel", name := "pacesNow", desc := "()I" } : MethodName) prog_14_method_93_code (4 : Nat) (Option.some FieldType.int)) ∈ gW := mem_t6 236 (by decide +kernel) (by decide +kernel)
theorem wm_1435 : (Cond.instanceMethod ({ cls := "SmokeRingsModel", name := "pacesNow", desc := "()I" } : MethodName)) ∈ gW := mem_t6 235 (by decide +kernel) (by decide +kernel)
theorem pv_X12_pacesNow : Cond.selects yX12_pacesNow.cls yX12_pacesNow yX12_pacesNow ∈ gW := mem_prv (n := 32) (by decide +kernel) (by decide +kernel)
theorem mv_RX12_309 : sr_MV RX12 309 yX12_pacesNow cX12_pacesNow 4 (some .int) 0 12 := ⟨⟨(RX12, TX12, 32), rfl, rfl⟩, wm_1433, wm_1435, pv_X12_pacesNow, wm_15, wm_1436, ⟨by decide +kernel, by decide +kernel⟩, by decide +kernel, by decide⟩
theorem wm_1441 : (Cond.methodLink "SmokeRingsModel" (312 : Nat) ({ cls := "SmokeRingsModel", name := "askNow", desc := "()I" } : MethodName)) ∈ gW := mem_t7 1 (by decide +kernel) (by decide +kernel)
theorem wm_1444 : (Cond.code ({ cls := "SmokeRingsModel", name := "askNow", desc := "()I" } : MethodName) prog_14_method_95_code (7 : Nat) (Option.some FieldType.int)) ∈ gW := mem_t7 4 (by decide +kernel) (by decide +kernel)
theorem wm_1443 : (Cond.instanceMethod ({ cls := "SmokeRingsModel", name := "askNow", desc := "()I" } : MethodName)) ∈ gW := mem_t7 3 (by decide +kernel) (by decide +kernel)
theorem pv_X12_askNow : Cond.selects yX12_askNow.cls yX12_askNow yX12_askNow ∈ gW := mem_prv (n := 32) (by decide +kernel) (by decide +kernel)
theorem mv_RX12_312 : sr_MV RX12 312 yX12_askNow cX12_askNow 7 (some .int) 0 12 := ⟨⟨(RX12, TX12, 32), rfl, rfl⟩, wm_1441, wm_1443, pv_X12_askNow, wm_15, wm_1444, ⟨by decide +kernel, by decide +kernel⟩, by decide +kernel, by decide⟩
theorem wm_1454 : (Cond.methodLink "SmokeRingsModel" (315 : Nat) ({ cls := "SmokeRingsModel", name := "part", desc := "(JJI)J" } : MethodName)) ∈ gW := mem_t7 14 (by decide +kernel) (by decide +kernel)
theorem wm_1456 : (Cond.code ({ cls := "SmokeRingsModel", name := "part", desc := "(JJI)J" } : MethodName) prog_14_method_10_code (11 : Nat) (Option.some FieldType.long)) ∈ gW := mem_t7 16 (by decide +kernel) (by decide +kernel)
theorem wm_1455 : (Cond.static ({ cls := "SmokeRingsModel", name := "part", desc := "(JJI)J" } : MethodName)) ∈ gW := mem_t7 15 (by decide +kernel) (by decide +kernel)
theorem ms_RX12_315 : sr_MS RX12 315 yX12_part cX12_part 11 (some .long) 3 := ⟨wm_1454, wm_1455, wm_15, wm_1456, ⟨by decide +kernel, by decide +kernel⟩, by decide +kernel, by decide⟩
theorem wm_1450 : (Cond.methodLink "SmokeRingsModel" (321 : Nat) ({ cls := "SmokeRingsModel", name := "stillOf", desc := "(IIIII)J" } : MethodName)) ∈ gW := mem_t7 10 (by decide +kernel) (by decide +kernel)
theorem wm_1453 : (Cond.code ({ cls := "SmokeRingsModel", name := "stillOf", desc := "(IIIII)J" } : MethodName) prog_14_method_97_code (12 : Nat) (Option.some FieldType.long)) ∈ gW := mem_t7 13 (by decide +kernel) (by decide +kernel)
theorem wm_1452 : (Cond.instanceMethod ({ cls := "SmokeRingsModel", name := "stillOf", desc := "(IIIII)J" } : MethodName)) ∈ gW := mem_t7 12 (by decide +kernel) (by decide +kernel)
theorem pv_X12_stillOf : Cond.selects yX12_stillOf.cls yX12_stillOf yX12_stillOf ∈ gW := mem_prv (n := 32) (by decide +kernel) (by decide +kernel)
theorem mv_RX12_321 : sr_MV RX12 321 yX12_stillOf cX12_stillOf 12 (some .long) 5 12 := ⟨⟨(RX12, TX12, 32), rfl, rfl⟩, wm_1450, wm_1452, pv_X12_stillOf, wm_15, wm_1453, ⟨by decide +kernel, by decide +kernel⟩, by decide +kernel, by decide⟩
theorem wm_1457 : (Cond.methodLink "SmokeRingsModel" (325 : Nat) ({ cls := "SmokeRingsModel", name := "no", desc := "(I)J" } : MethodName)) ∈ gW := mem_t7 17 (by decide +kernel) (by decide +kernel)
theorem wm_1459 : (Cond.code ({ cls := "SmokeRingsModel", name := "no", desc := "(I)J" } : MethodName) prog_14_method_4_code (1 : Nat) (Option.some FieldType.long)) ∈ gW := mem_t7 19 (by decide +kernel) (by decide +kernel)
theorem wm_1458 : (Cond.static ({ cls := "SmokeRingsModel", name := "no", desc := "(I)J" } : MethodName)) ∈ gW := mem_t7 18 (by decide +kernel) (by decide +kernel)
theorem ms_RX12_325 : sr_MS RX12 325 yX12_no cX12_no 1 (some .long) 1 := ⟨wm_1457, wm_1458, wm_15, wm_1459, ⟨by decide +kernel, by decide +kernel⟩, by decide +kernel, by decide⟩
theorem wm_1470 : (Cond.methodLink "SmokeRingsModel" (333 : Nat) ({ cls := "SmokeRingsModel", name := "lot", desc := "(I)I" } : MethodName)) ∈ gW := mem_t7 30 (by decide +kernel) (by decide +kernel)
theorem wm_1473 : (Cond.code ({ cls := "SmokeRingsModel", name := "lot", desc := "(I)I" } : MethodName) prog_14_method_99_code (2 : Nat) (Option.some FieldType.int)) ∈ gW := mem_t7 33 (by decide +kernel) (by decide +kernel)
theorem wm_1472 : (Cond.instanceMethod ({ cls := "SmokeRingsModel", name := "lot", desc := "(I)I" } : MethodName)) ∈ gW := mem_t7 32 (by decide +kernel) (by decide +kernel)
theorem pv_X12_lot : Cond.selects yX12_lot.cls yX12_lot yX12_lot ∈ gW := mem_prv (n := 32) (by decide +kernel) (by decide +kernel)
theorem mv_RX12_333 : sr_MV RX12 333 yX12_lot cX12_lot 2 (some .int) 1 12 := ⟨⟨(RX12, TX12, 32), rfl, rfl⟩, wm_1470, wm_1472, pv_X12_lot, wm_15, wm_1473, ⟨by decide +kernel, by decide +kernel⟩, by decide +kernel, by decide⟩
theorem wm_1466 : (Cond.methodLink "SmokeRingsModel" (338 : Nat) ({ cls := "SmokeRingsModel", name := "eveningOf", desc := "(III)I" } : MethodName)) ∈ gW := mem_t7 26 (by decide +kernel) (by decide +kernel)
theorem wm_1469 : (Cond.code ({ cls := "SmokeRingsModel", name := "eveningOf", desc := "(III)I" } : MethodName) prog_14_method_100_code (8 : Nat) (Option.some FieldType.int)) ∈ gW := mem_t7 29 (by decide +kernel) (by decide +kernel)
theorem wm_1468 : (Cond.instanceMethod ({ cls := "SmokeRingsModel", name := "eveningOf", desc := "(III)I" } : MethodName)) ∈ gW := mem_t7 28 (by decide +kernel) (by decide +kernel)
theorem pv_X12_eveningOf : Cond.selects yX12_eveningOf.cls yX12_eveningOf yX12_eveningOf ∈ gW := mem_prv (n := 32) (by decide +kernel) (by decide +kernel)
theorem mv_RX12_338 : sr_MV RX12 338 yX12_eveningOf cX12_eveningOf 8 (some .int) 3 12 := ⟨⟨(RX12, TX12, 32), rfl, rfl⟩, wm_1466, wm_1468, pv_X12_eveningOf, wm_15, wm_1469, ⟨by decide +kernel, by decide +kernel⟩, by decide +kernel, by decide⟩
theorem wm_1479 : (Cond.methodLink "SmokeRingsModel" (341 : Nat) ({ cls := "SmokeRingsModel", name := "lesser", desc := "(II)I" } : MethodName)) ∈ gW := mem_t7 39 (by decide +kernel) (by decide +kernel)
theorem wm_1481 : (Cond.code ({ cls := "SmokeRingsModel", name := "lesser", desc := "(II)I" } : MethodName) prog_14_method_8_code (2 : Nat) (Option.some FieldType.int)) ∈ gW := mem_t7 41 (by decide +kernel) (by decide +kernel)
theorem wm_1480 : (Cond.static ({ cls := "SmokeRingsModel", name := "lesser", desc := "(II)I" } : MethodName)) ∈ gW := mem_t7 40 (by decide +kernel) (by decide +kernel)
theorem ms_RX12_341 : sr_MS RX12 341 yX12_lesser cX12_lesser 2 (some .int) 2 := ⟨wm_1479, wm_1480, wm_15, wm_1481, ⟨by decide +kernel, by decide +kernel⟩, by decide +kernel, by decide⟩
theorem wm_1497 : (Cond.methodLink "SmokeRingsModel" (346 : Nat) ({ cls := "SmokeRingsModel", name := "tellsStep", desc := "(JII)J" } : MethodName)) ∈ gW := mem_t7 57 (by decide +kernel) (by decide +kernel)
theorem wm_1500 : (Cond.code ({ cls := "SmokeRingsModel", name := "tellsStep", desc := "(JII)J" } : MethodName) prog_14_method_104_code (8 : Nat) (Option.some FieldType.long)) ∈ gW := mem_t7 60 (by decide +kernel) (by decide +kernel)
theorem wm_1499 : (Cond.instanceMethod ({ cls := "SmokeRingsModel", name := "tellsStep", desc := "(JII)J" } : MethodName)) ∈ gW := mem_t7 59 (by decide +kernel) (by decide +kernel)
theorem pv_X12_tellsStep : Cond.selects yX12_tellsStep.cls yX12_tellsStep yX12_tellsStep ∈ gW := mem_prv (n := 32) (by decide +kernel) (by decide +kernel)
theorem mv_RX12_346 : sr_MV RX12 346 yX12_tellsStep cX12_tellsStep 8 (some .long) 3 12 := ⟨⟨(RX12, TX12, 32), rfl, rfl⟩, wm_1497, wm_1499, pv_X12_tellsStep, wm_15, wm_1500, ⟨by decide +kernel, by decide +kernel⟩, by decide +kernel, by decide⟩
theorem wm_1492 : (Cond.methodLink "SmokeRingsModel" (352 : Nat) ({ cls := "SmokeRingsModel", name := "count", desc := "(I)I" } : MethodName)) ∈ gW := mem_t7 52 (by decide +kernel) (by decide +kernel)
theorem mv_RX12_352 : sr_MV RX12 352 yX12_count cX12_count 2 (some .int) 1 12 := ⟨⟨(RX12, TX12, 32), rfl, rfl⟩, wm_1492, wm_1483, wm_1484, wm_15, wm_1485, ⟨by decide +kernel, by decide +kernel⟩, by decide +kernel, by decide⟩
theorem wm_1493 : (Cond.methodLink "SmokeRingsModel" (355 : Nat) ({ cls := "SmokeRingsModel", name := "tellsRing", desc := "(JI)J" } : MethodName)) ∈ gW := mem_t7 53 (by decide +kernel) (by decide +kernel)
theorem wm_1496 : (Cond.code ({ cls := "SmokeRingsModel", name := "tellsRing", desc := "(JI)J" } : MethodName) prog_14_method_105_code (7 : Nat) (Option.some FieldType.long)) ∈ gW := mem_t7 56 (by decide +kernel) (by decide +kernel)
theorem wm_1495 : (Cond.instanceMethod ({ cls := "SmokeRingsModel", name := "tellsRing", desc := "(JI)J" } : MethodName)) ∈ gW := mem_t7 55 (by decide +kernel) (by decide +kernel)
theorem pv_X12_tellsRing : Cond.selects yX12_tellsRing.cls yX12_tellsRing yX12_tellsRing ∈ gW := mem_prv (n := 32) (by decide +kernel) (by decide +kernel)
theorem mv_RX12_355 : sr_MV RX12 355 yX12_tellsRing cX12_tellsRing 7 (some .long) 2 12 := ⟨⟨(RX12, TX12, 32), rfl, rfl⟩, wm_1493, wm_1495, pv_X12_tellsRing, wm_15, wm_1496, ⟨by decide +kernel, by decide +kernel⟩, by decide +kernel, by decide⟩
theorem wm_1501 : (Cond.methodLink "SmokeRingsModel" (359 : Nat) ({ cls := "SmokeRingsModel", name := "tellsThing", desc := "(JI)J" } : MethodName)) ∈ gW := mem_t7 61 (by decide +kernel) (by decide +kernel)
theorem wm_1504 : (Cond.code ({ cls := "SmokeRingsModel", name := "tellsThing", desc := "(JI)J" } : MethodName) prog_14_method_106_code (7 : Nat) (Option.some FieldType.long)) ∈ gW := mem_t7 64 (by decide +kernel) (by decide +kernel)
theorem wm_1503 : (Cond.instanceMethod ({ cls := "SmokeRingsModel", name := "tellsThing", desc := "(JI)J" } : MethodName)) ∈ gW := mem_t7 63 (by decide +kernel) (by decide +kernel)
theorem pv_X12_tellsThing : Cond.selects yX12_tellsThing.cls yX12_tellsThing yX12_tellsThing ∈ gW := mem_prv (n := 32) (by decide +kernel) (by decide +kernel)
theorem mv_RX12_359 : sr_MV RX12 359 yX12_tellsThing cX12_tellsThing 7 (some .long) 2 12 := ⟨⟨(RX12, TX12, 32), rfl, rfl⟩, wm_1501, wm_1503, pv_X12_tellsThing, wm_15, wm_1504, ⟨by decide +kernel, by decide +kernel⟩, by decide +kernel, by decide⟩
theorem wm_829 : (Cond.constantLong "SmokeRings" (286 : Nat) (-9223372036854775806 : Int64)) ∈ gW := mem_t4 109 (by decide +kernel) (by decide +kernel)
theorem kc_RX11_286 : Cond.constantLong RX11 286 (Int64.ofInt (-9223372036854775806)) ∈ gW := wm_829
theorem wm_918 : (Cond.constant "SmokeRings" (317 : Nat) (-2147483648 : Int32)) ∈ gW := mem_t4 198 (by decide +kernel) (by decide +kernel)
theorem kc_RX11_317 : Cond.constant RX11 317 (Int32.ofInt (-2147483648)) ∈ gW := wm_918
theorem wm_941 : (Cond.constantLong "SmokeRings" (341 : Nat) (17 : Int64)) ∈ gW := mem_t4 221 (by decide +kernel) (by decide +kernel)
theorem kc_RX11_341 : Cond.constantLong RX11 341 (Int64.ofInt (17)) ∈ gW := wm_941
theorem wm_955 : (Cond.constantLong "SmokeRings" (373 : Nat) (-2 : Int64)) ∈ gW := mem_t4 235 (by decide +kernel) (by decide +kernel)
theorem kc_RX11_373 : Cond.constantLong RX11 373 (Int64.ofInt (-2)) ∈ gW := wm_955
theorem wm_946 : (Cond.constantLong "SmokeRings" (387 : Nat) (31 : Int64)) ∈ gW := mem_t4 226 (by decide +kernel) (by decide +kernel)
theorem kc_RX11_387 : Cond.constantLong RX11 387 (Int64.ofInt (31)) ∈ gW := wm_946
theorem wm_880 : (Cond.constant "SmokeRings$Chances" (130 : Nat) (1103515245 : Int32)) ∈ gW := mem_t4 160 (by decide +kernel) (by decide +kernel)
theorem kc_RX0_130 : Cond.constant RX0 130 (Int32.ofInt (1103515245)) ∈ gW := wm_880
theorem wm_1460 : (Cond.constantLong "SmokeRingsModel" (74 : Nat) (-9223372036854775808 : Int64)) ∈ gW := mem_t7 20 (by decide +kernel) (by decide +kernel)
theorem kc_RX12_74 : Cond.constantLong RX12 74 (Int64.ofInt (-9223372036854775808)) ∈ gW := wm_1460
theorem wm_1082 : (Cond.constantLong "SmokeRingsModel" (83 : Nat) (3 : Int64)) ∈ gW := mem_t5 122 (by decide +kernel) (by decide +kernel)
theorem kc_RX12_83 : Cond.constantLong RX12 83 (Int64.ofInt (3)) ∈ gW := wm_1082
theorem wm_1086 : (Cond.constantLong "SmokeRingsModel" (89 : Nat) (2 : Int64)) ∈ gW := mem_t5 126 (by decide +kernel) (by decide +kernel)
theorem kc_RX12_89 : Cond.constantLong RX12 89 (Int64.ofInt (2)) ∈ gW := wm_1086
theorem wm_1110 : (Cond.constant "SmokeRingsModel" (103 : Nat) (-2147483648 : Int32)) ∈ gW := mem_t5 150 (by decide +kernel) (by decide +kernel)
theorem kc_RX12_103 : Cond.constant RX12 103 (Int32.ofInt (-2147483648)) ∈ gW := wm_1110
theorem wm_1122 : (Cond.constantLong "SmokeRingsModel" (107 : Nat) (255 : Int64)) ∈ gW := mem_t5 162 (by decide +kernel) (by decide +kernel)
theorem kc_RX12_107 : Cond.constantLong RX12 107 (Int64.ofInt (255)) ∈ gW := wm_1122
theorem wm_1154 : (Cond.constantLong "SmokeRingsModel" (118 : Nat) (48 : Int64)) ∈ gW := mem_t5 194 (by decide +kernel) (by decide +kernel)
theorem kc_RX12_118 : Cond.constantLong RX12 118 (Int64.ofInt (48)) ∈ gW := wm_1154
theorem wm_1155 : (Cond.constantLong "SmokeRingsModel" (120 : Nat) (51 : Int64)) ∈ gW := mem_t5 195 (by decide +kernel) (by decide +kernel)
theorem kc_RX12_120 : Cond.constantLong RX12 120 (Int64.ofInt (51)) ∈ gW := wm_1155
theorem wm_1156 : (Cond.constantLong "SmokeRingsModel" (122 : Nat) (57 : Int64)) ∈ gW := mem_t5 196 (by decide +kernel) (by decide +kernel)
theorem kc_RX12_122 : Cond.constantLong RX12 122 (Int64.ofInt (57)) ∈ gW := wm_1156
theorem wm_1157 : (Cond.constantLong "SmokeRingsModel" (124 : Nat) (49 : Int64)) ∈ gW := mem_t5 197 (by decide +kernel) (by decide +kernel)
theorem kc_RX12_124 : Cond.constantLong RX12 124 (Int64.ofInt (49)) ∈ gW := wm_1157
theorem wm_1186 : (Cond.constantLong "SmokeRingsModel" (148 : Nat) (19 : Int64)) ∈ gW := mem_t5 226 (by decide +kernel) (by decide +kernel)
theorem kc_RX12_148 : Cond.constantLong RX12 148 (Int64.ofInt (19)) ∈ gW := wm_1186
theorem wm_1170 : (Cond.constantLong "SmokeRingsModel" (150 : Nat) (35 : Int64)) ∈ gW := mem_t5 210 (by decide +kernel) (by decide +kernel)
theorem kc_RX12_150 : Cond.constantLong RX12 150 (Int64.ofInt (35)) ∈ gW := wm_1170
theorem wm_1191 : (Cond.constantLong "SmokeRingsModel" (158 : Nat) (4 : Int64)) ∈ gW := mem_t5 231 (by decide +kernel) (by decide +kernel)
theorem kc_RX12_158 : Cond.constantLong RX12 158 (Int64.ofInt (4)) ∈ gW := wm_1191
theorem wm_1196 : (Cond.constantLong "SmokeRingsModel" (163 : Nat) (9 : Int64)) ∈ gW := mem_t5 236 (by decide +kernel) (by decide +kernel)
theorem kc_RX12_163 : Cond.constantLong RX12 163 (Int64.ofInt (9)) ∈ gW := wm_1196
theorem wm_1370 : (Cond.constantLong "SmokeRingsModel" (278 : Nat) (-1 : Int64)) ∈ gW := mem_t6 170 (by decide +kernel) (by decide +kernel)
theorem kc_RX12_278 : Cond.constantLong RX12 278 (Int64.ofInt (-1)) ∈ gW := wm_1370
theorem wm_1391 : (Cond.constantLong "SmokeRingsModel" (289 : Nat) (99 : Int64)) ∈ gW := mem_t6 191 (by decide +kernel) (by decide +kernel)
theorem kc_RX12_289 : Cond.constantLong RX12 289 (Int64.ofInt (99)) ∈ gW := wm_1391
theorem wm_1404 : (Cond.constantLong "SmokeRingsModel" (294 : Nat) (7 : Int64)) ∈ gW := mem_t6 204 (by decide +kernel) (by decide +kernel)
theorem kc_RX12_294 : Cond.constantLong RX12 294 (Int64.ofInt (7)) ∈ gW := wm_1404
theorem wm_1449 : (Cond.constantLong "SmokeRingsModel" (319 : Nat) (16 : Int64)) ∈ gW := mem_t7 9 (by decide +kernel) (by decide +kernel)
theorem kc_RX12_319 : Cond.constantLong RX12 319 (Int64.ofInt (16)) ∈ gW := wm_1449
theorem wm_1474 : (Cond.constant "SmokeRingsModel" (329 : Nat) (1103515245 : Int32)) ∈ gW := mem_t7 34 (by decide +kernel) (by decide +kernel)
theorem kc_RX12_329 : Cond.constant RX12 329 (Int32.ofInt (1103515245)) ∈ gW := wm_1474
theorem wm_1465 : (Cond.constantLong "SmokeRingsModel" (336 : Nat) (8 : Int64)) ∈ gW := mem_t7 25 (by decide +kernel) (by decide +kernel)
theorem kc_RX12_336 : Cond.constantLong RX12 336 (Int64.ofInt (8)) ∈ gW := wm_1465
theorem wm_1491 : (Cond.constantLong "SmokeRingsModel" (344 : Nat) (31 : Int64)) ∈ gW := mem_t7 51 (by decide +kernel) (by decide +kernel)
theorem kc_RX12_344 : Cond.constantLong RX12 344 (Int64.ofInt (31)) ∈ gW := wm_1491
theorem wm_1490 : (Cond.constantLong "SmokeRingsModel" (350 : Nat) (17 : Int64)) ∈ gW := mem_t7 50 (by decide +kernel) (by decide +kernel)
theorem kc_RX12_350 : Cond.constantLong RX12 350 (Int64.ofInt (17)) ∈ gW := wm_1490
theorem wm_662 : (Cond.constant "java/lang/Integer" (265 : Nat) (1431655765 : Int32)) ∈ gW := mem_t3 182 (by decide +kernel) (by decide +kernel)
theorem kc_RJ6_265 : Cond.constant RJ6 265 (Int32.ofInt (1431655765)) ∈ gW := wm_662
theorem wm_663 : (Cond.constant "java/lang/Integer" (266 : Nat) (858993459 : Int32)) ∈ gW := mem_t3 183 (by decide +kernel) (by decide +kernel)
theorem kc_RJ6_266 : Cond.constant RJ6 266 (Int32.ofInt (858993459)) ∈ gW := wm_663
theorem wm_664 : (Cond.constant "java/lang/Integer" (267 : Nat) (252645135 : Int32)) ∈ gW := mem_t3 184 (by decide +kernel) (by decide +kernel)
theorem kc_RJ6_267 : Cond.constant RJ6 267 (Int32.ofInt (252645135)) ∈ gW := wm_664
theorem wm_795 : (Cond.constantLong "java/lang/Long" (314 : Nat) (6148914691236517205 : Int64)) ∈ gW := mem_t4 75 (by decide +kernel) (by decide +kernel)
theorem kc_RJ13_314 : Cond.constantLong RJ13 314 (Int64.ofInt (6148914691236517205)) ∈ gW := wm_795
theorem wm_796 : (Cond.constantLong "java/lang/Long" (316 : Nat) (3689348814741910323 : Int64)) ∈ gW := mem_t4 76 (by decide +kernel) (by decide +kernel)
theorem kc_RJ13_316 : Cond.constantLong RJ13 316 (Int64.ofInt (3689348814741910323)) ∈ gW := wm_796
theorem wm_797 : (Cond.constantLong "java/lang/Long" (318 : Nat) (1085102592571150095 : Int64)) ∈ gW := mem_t4 77 (by decide +kernel) (by decide +kernel)
theorem kc_RJ13_318 : Cond.constantLong RJ13 318 (Int64.ofInt (1085102592571150095)) ∈ gW := wm_797
theorem wm_681 : (Cond.methodLink "SmokeRings$Night" (55 : Nat) ({ cls := "java/lang/System", name := "arraycopy", desc := "(Ljava/lang/Object;ILjava/lang/Object;II)V" } : MethodName)) ∈ gW := mem_t3 201 (by decide +kernel) (by decide +kernel)
theorem ac_RX4_55 : Cond.methodLink RX4 55 arraycopyName ∈ gW := wm_681
theorem wm_927 : (Cond.methodLink "SmokeRings" (327 : Nat) ({ cls := "java/lang/System", name := "arraycopy", desc := "(Ljava/lang/Object;ILjava/lang/Object;II)V" } : MethodName)) ∈ gW := mem_t4 207 (by decide +kernel) (by decide +kernel)
theorem ac_RX11_327 : Cond.methodLink RX11 327 arraycopyName ∈ gW := wm_927
theorem wm_683 : (Cond.native ({ cls := "java/lang/System", name := "arraycopy", desc := "(Ljava/lang/Object;ILjava/lang/Object;II)V" } : MethodName)) ∈ gW := mem_t3 203 (by decide +kernel) (by decide +kernel)
theorem wm_682 : (Cond.static ({ cls := "java/lang/System", name := "arraycopy", desc := "(Ljava/lang/Object;ILjava/lang/Object;II)V" } : MethodName)) ∈ gW := mem_t3 202 (by decide +kernel) (by decide +kernel)
theorem wm_17 : (Cond.initialized "java/lang/System") ∈ gW := mem_t1 17 (by decide +kernel) (by decide +kernel)
theorem ac_n : Cond.native arraycopyName ∈ gW := wm_683
theorem ac_s : Cond.static arraycopyName ∈ gW := wm_682
theorem ac_i : Cond.initialized "java/lang/System" ∈ gW := wm_17
theorem wm_953 : (Cond.fieldLink "SmokeRings" (370 : Nat) "SmokeRings" "DIGEST_STEPS" "[I") ∈ gW := mem_t4 233 (by decide +kernel) (by decide +kernel)
theorem ds_370 : Cond.fieldLink RX11 370 "SmokeRings" "DIGEST_STEPS" "[I" ∈ gW := wm_953
theorem kd_0 : kd 0 = 21 := rfl
theorem kd_1 : kd 1 = 4 := rfl
theorem kd_2 : kd 2 = 1 := rfl
theorem kd_3 : kd 3 = 20 := rfl
theorem kd_4 : kd 4 = 3 := rfl
theorem kd_5 : kd 5 = 1 := rfl
theorem kd_6 : kd 6 = 14 := rfl
theorem kd_7 : kd 7 = 1 := rfl
theorem kd_8 : kd 8 = 1 := rfl
theorem kd_9 : kd 9 = 1 := rfl
theorem kd_10 : kd 10 = 1 := rfl
theorem kd_11 : kd 11 = 1 := rfl
theorem kd_12 : kd 12 = 1 := rfl
theorem kd_13 : kd 13 = 1 := rfl
theorem kd_14 : kd 14 = 1 := rfl
theorem kd_15 : kd 15 = 1 := rfl
theorem kd_16 : kd 16 = 16 := rfl
theorem kd_17 : kd 17 = 1 := rfl
theorem kd_18 : kd 18 = 1 := rfl
theorem kd_19 : kd 19 = 1 := rfl
theorem kd_20 : kd 20 = 1 := rfl
theorem kd_21 : kd 21 = 1 := rfl
theorem kd_22 : kd 22 = 1 := rfl
theorem kd_23 : kd 23 = 1 := rfl
theorem kd_24 : kd 24 = 11 := rfl
theorem kd_25 : kd 25 = 1 := rfl
theorem kd_26 : kd 26 = 18 := rfl
theorem kd_27 : kd 27 = 1 := rfl
theorem kd_28 : kd 28 = 1 := rfl
theorem kd_29 : kd 29 = 5 := rfl
theorem kd_30 : kd 30 = 19 := rfl
theorem kd_31 : kd 31 = 1 := rfl
theorem kd_32 : kd 32 = 19 := rfl
theorem kd_33 : kd 33 = 1 := rfl
theorem kd_34 : kd 34 = 19 := rfl
theorem kd_35 : kd 35 = 1 := rfl
theorem kd_36 : kd 36 = 17 := rfl
theorem kd_37 : kd 37 = 1 := rfl
theorem kd_38 : kd 38 = 17 := rfl
theorem kd_39 : kd 39 = 1 := rfl
theorem kd_40 : kd 40 = 17 := rfl
theorem kd_41 : kd 41 = 1 := rfl
theorem kd_42 : kd 42 = 17 := rfl
theorem kd_43 : kd 43 = 1 := rfl
theorem kd_44 : kd 44 = 14 := rfl
theorem kd_45 : kd 45 = 1 := rfl
theorem kd_46 : kd 46 = 1 := rfl
theorem kd_47 : kd 47 = 1 := rfl
theorem kd_48 : kd 48 = 1 := rfl
theorem kd_49 : kd 49 = 1 := rfl
theorem kd_50 : kd 50 = 1 := rfl
theorem kd_51 : kd 51 = 1 := rfl
theorem kd_52 : kd 52 = 1 := rfl
theorem kd_53 : kd 53 = 1 := rfl
theorem kd_54 : kd 54 = 16 := rfl
theorem kd_55 : kd 55 = 1 := rfl
theorem kd_56 : kd 56 = 1 := rfl
theorem kd_57 : kd 57 = 1 := rfl
theorem kd_58 : kd 58 = 1 := rfl
theorem kd_59 : kd 59 = 1 := rfl
theorem kd_60 : kd 60 = 1 := rfl
theorem kd_61 : kd 61 = 1 := rfl
theorem kd_62 : kd 62 = 15 := rfl
theorem kd_63 : kd 63 = 12 := rfl
theorem kd_64 : kd 64 = 13 := rfl
theorem kd_65 : kd 65 = 1 := rfl
theorem kd_66 : kd 66 = 10 := rfl
theorem kd_67 : kd 67 = 1 := rfl
theorem kd_68 : kd 68 = 2 := rfl
theorem kd_69 : kd 69 = 22 := rfl
theorem kd_70 : kd 70 = 1 := rfl
theorem kd_71 : kd 71 = 1 := rfl
theorem kd_72 : kd 72 = 1 := rfl
theorem kd_73 : kd 73 = 1 := rfl
theorem kd_74 : kd 74 = 1 := rfl
theorem kd_75 : kd 75 = 1 := rfl
theorem kd_76 : kd 76 = 1 := rfl
theorem kd_77 : kd 77 = 1 := rfl
theorem kd_78 : kd 78 = 1 := rfl
theorem kd_79 : kd 79 = 1 := rfl
theorem kd_80 : kd 80 = 1 := rfl
theorem kd_81 : kd 81 = 1 := rfl
theorem kd_82 : kd 82 = 1 := rfl
theorem kd_83 : kd 83 = 1 := rfl
theorem kd_84 : kd 84 = 1 := rfl
theorem kd_85 : kd 85 = 1 := rfl
theorem kd_86 : kd 86 = 1 := rfl
theorem kd_87 : kd 87 = 1 := rfl
theorem kd_88 : kd 88 = 1 := rfl
theorem kd_89 : kd 89 = 1 := rfl
theorem rf_0_0 : rfn 0 0 = 1 := rfl
theorem rf_0_1 : rfn 0 1 = 2 := rfl
theorem rf_0_2 : rfn 0 2 = 3 := rfl
theorem rf_0_3 : rfn 0 3 = 6 := rfl
theorem rf_0_4 : rfn 0 4 = 16 := rfl
theorem rf_0_5 : rfn 0 5 = 24 := rfl
theorem rf_0_6 : rfn 0 6 = 26 := rfl
theorem rf_0_7 : rfn 0 7 = 62 := rfl
theorem rf_0_8 : rfn 0 8 = 64 := rfl
theorem rf_0_9 : rfn 0 9 = 66 := rfl
theorem rf_0_10 : rfn 0 10 = 29 := rfl
theorem al_1 : al 1 = 3 := rfl
theorem al_2 : al 2 = 3 := rfl
theorem rf_3_1 : rfn 3 1 = 4 := rfl
theorem rf_3_2 : rfn 3 2 = 5 := rfl
theorem al_4 : al 4 = 36 := rfl
theorem al_5 : al 5 = 144 := rfl
theorem rf_6_1 : rfn 6 1 = 7 := rfl
theorem rf_6_2 : rfn 6 2 = 8 := rfl
theorem rf_6_3 : rfn 6 3 = 9 := rfl
theorem rf_6_4 : rfn 6 4 = 10 := rfl
theorem rf_6_5 : rfn 6 5 = 11 := rfl
theorem rf_6_7 : rfn 6 7 = 12 := rfl
theorem rf_6_8 : rfn 6 8 = 13 := rfl
theorem rf_6_9 : rfn 6 9 = 14 := rfl
theorem rf_6_10 : rfn 6 10 = 15 := rfl
theorem al_7 : al 7 = 8 := rfl
theorem al_8 : al 8 = 8 := rfl
theorem al_9 : al 9 = 8 := rfl
theorem al_10 : al 10 = 8 := rfl
theorem al_11 : al 11 = 8 := rfl
theorem al_12 : al 12 = 8 := rfl
theorem al_13 : al 13 = 8 := rfl
theorem al_14 : al 14 = 8 := rfl
theorem al_15 : al 15 = 20 := rfl
theorem rf_16_0 : rfn 16 0 = 3 := rfl
theorem rf_16_1 : rfn 16 1 = 17 := rfl
theorem rf_16_2 : rfn 16 2 = 18 := rfl
theorem rf_16_3 : rfn 16 3 = 19 := rfl
theorem rf_16_4 : rfn 16 4 = 20 := rfl
theorem rf_16_5 : rfn 16 5 = 21 := rfl
theorem rf_16_6 : rfn 16 6 = 22 := rfl
theorem rf_16_7 : rfn 16 7 = 23 := rfl
theorem al_17 : al 17 = 8 := rfl
theorem al_18 : al 18 = 8 := rfl
theorem al_19 : al 19 = 8 := rfl
theorem al_20 : al 20 = 8 := rfl
theorem al_21 : al 21 = 8 := rfl
theorem al_22 : al 22 = 8 := rfl
theorem al_23 : al 23 = 8 := rfl
theorem rf_24_0 : rfn 24 0 = 25 := rfl
theorem al_25 : al 25 = 640 := rfl
theorem rf_26_0 : rfn 26 0 = 27 := rfl
theorem rf_26_1 : rfn 26 1 = 28 := rfl
theorem al_27 : al 27 = 8 := rfl
theorem al_28 : al 28 = 8 := rfl
theorem al_29 : al 29 = 4 := rfl
theorem rf_30_0 : rfn 30 0 = 31 := rfl
theorem al_31 : al 31 = 41 := rfl
theorem rf_32_0 : rfn 32 0 = 33 := rfl
theorem al_33 : al 33 = 39 := rfl
theorem rf_34_0 : rfn 34 0 = 35 := rfl
theorem al_35 : al 35 = 20 := rfl
theorem rf_36_2 : rfn 36 2 = 37 := rfl
theorem al_37 : al 37 = 60 := rfl
theorem rf_38_2 : rfn 38 2 = 39 := rfl
theorem al_39 : al 39 = 60 := rfl
theorem rf_40_2 : rfn 40 2 = 41 := rfl
theorem al_41 : al 41 = 60 := rfl
theorem rf_42_2 : rfn 42 2 = 43 := rfl
theorem al_43 : al 43 = 60 := rfl
theorem rf_44_1 : rfn 44 1 = 45 := rfl
theorem rf_44_2 : rfn 44 2 = 46 := rfl
theorem rf_44_3 : rfn 44 3 = 47 := rfl
theorem rf_44_4 : rfn 44 4 = 48 := rfl
theorem rf_44_5 : rfn 44 5 = 49 := rfl
theorem rf_44_7 : rfn 44 7 = 50 := rfl
theorem rf_44_8 : rfn 44 8 = 51 := rfl
theorem rf_44_9 : rfn 44 9 = 52 := rfl
theorem rf_44_10 : rfn 44 10 = 53 := rfl
theorem al_45 : al 45 = 8 := rfl
theorem al_46 : al 46 = 8 := rfl
theorem al_47 : al 47 = 8 := rfl
theorem al_48 : al 48 = 8 := rfl
theorem al_49 : al 49 = 8 := rfl
theorem al_50 : al 50 = 8 := rfl
theorem al_51 : al 51 = 8 := rfl
theorem al_52 : al 52 = 8 := rfl
theorem al_53 : al 53 = 20 := rfl
theorem rf_54_0 : rfn 54 0 = 3 := rfl
theorem rf_54_1 : rfn 54 1 = 55 := rfl
theorem rf_54_2 : rfn 54 2 = 56 := rfl
theorem rf_54_3 : rfn 54 3 = 57 := rfl
theorem rf_54_4 : rfn 54 4 = 58 := rfl
theorem rf_54_5 : rfn 54 5 = 59 := rfl
theorem rf_54_6 : rfn 54 6 = 60 := rfl
theorem rf_54_7 : rfn 54 7 = 61 := rfl
theorem al_55 : al 55 = 8 := rfl
theorem al_56 : al 56 = 8 := rfl
theorem al_57 : al 57 = 8 := rfl
theorem al_58 : al 58 = 8 := rfl
theorem al_59 : al 59 = 8 := rfl
theorem al_60 : al 60 = 8 := rfl
theorem al_61 : al 61 = 8 := rfl
theorem rf_62_0 : rfn 62 0 = 3 := rfl
theorem rf_62_1 : rfn 62 1 = 6 := rfl
theorem rf_62_2 : rfn 62 2 = 44 := rfl
theorem rf_62_3 : rfn 62 3 = 54 := rfl
theorem rf_62_9 : rfn 62 9 = 63 := rfl
theorem rf_64_0 : rfn 64 0 = 3 := rfl
theorem rf_64_1 : rfn 64 1 = 6 := rfl
theorem rf_64_2 : rfn 64 2 = 44 := rfl
theorem rf_64_3 : rfn 64 3 = 54 := rfl
theorem rf_64_4 : rfn 64 4 = 26 := rfl
theorem rf_64_6 : rfn 64 6 = 65 := rfl
theorem al_65 : al 65 = 40 := rfl
theorem rf_66_0 : rfn 66 0 = 3 := rfl
theorem rf_66_1 : rfn 66 1 = 6 := rfl
theorem rf_66_2 : rfn 66 2 = 44 := rfl
theorem rf_66_3 : rfn 66 3 = 54 := rfl
theorem rf_66_4 : rfn 66 4 = 67 := rfl
theorem rf_66_6 : rfn 66 6 = 68 := rfl
theorem al_67 : al 67 = 10 := rfl
theorem al_68 : al 68 = 32 := rfl
theorem rf_69_0 : rfn 69 0 = 70 := rfl
theorem rf_69_1 : rfn 69 1 = 71 := rfl
theorem rf_69_2 : rfn 69 2 = 72 := rfl
theorem rf_69_3 : rfn 69 3 = 73 := rfl
theorem rf_69_5 : rfn 69 5 = 74 := rfl
theorem rf_69_6 : rfn 69 6 = 75 := rfl
theorem rf_69_9 : rfn 69 9 = 76 := rfl
theorem rf_69_11 : rfn 69 11 = 77 := rfl
theorem rf_69_12 : rfn 69 12 = 78 := rfl
theorem rf_69_15 : rfn 69 15 = 79 := rfl
theorem rf_69_16 : rfn 69 16 = 80 := rfl
theorem rf_69_17 : rfn 69 17 = 81 := rfl
theorem rf_69_18 : rfn 69 18 = 82 := rfl
theorem rf_69_19 : rfn 69 19 = 83 := rfl
theorem rf_69_20 : rfn 69 20 = 84 := rfl
theorem rf_69_21 : rfn 69 21 = 85 := rfl
theorem rf_69_22 : rfn 69 22 = 86 := rfl
theorem rf_69_28 : rfn 69 28 = 87 := rfl
theorem rf_69_29 : rfn 69 29 = 88 := rfl
theorem rf_69_31 : rfn 69 31 = 89 := rfl
theorem al_70 : al 70 = 4 := rfl
theorem al_71 : al 71 = 4 := rfl
theorem al_72 : al 72 = 240 := rfl
theorem al_73 : al 73 = 60 := rfl
theorem al_74 : al 74 = 126 := rfl
theorem al_75 : al 75 = 3 := rfl
theorem al_76 : al 76 = 36 := rfl
theorem al_77 : al 77 = 24 := rfl
theorem al_78 : al 78 = 20 := rfl
theorem al_79 : al 79 = 40 := rfl
theorem al_80 : al 80 = 8 := rfl
theorem al_81 : al 81 = 8 := rfl
theorem al_82 : al 82 = 8 := rfl
theorem al_83 : al 83 = 8 := rfl
theorem al_84 : al 84 = 640 := rfl
theorem al_85 : al 85 = 8 := rfl
theorem al_86 : al 86 = 8 := rfl
theorem al_87 : al 87 = 16 := rfl
theorem al_88 : al 88 = 40 := rfl
theorem al_89 : al 89 = 40 := rfl
theorem kb_4 {o : Nat} (h : kd o = 14) : o < NP := kd_lt h (by decide)
theorem ly_4_1 {o : Nat} (h : kd o = 14) : rfn o 1 = o + 1 := by
  have h2 : ∀ o, o < NP → kd o = 14 → rfn o 1 = o + 1 := by decide +kernel
  exact h2 o (kb_4 h) h
theorem lk_4_1 {o : Nat} (h : kd o = 14) : kd (o + 1) = 1 := by
  have h2 : ∀ o, o < NP → kd o = 14 → kd (o + 1) = 1 := by decide +kernel
  exact h2 o (kb_4 h) h
theorem la_4_1 {o : Nat} (h : kd o = 14) : al (o + 1) = 8 := by
  have h2 : ∀ o, o < NP → kd o = 14 → al (o + 1) = 8 := by decide +kernel
  exact h2 o (kb_4 h) h
theorem ly_4_2 {o : Nat} (h : kd o = 14) : rfn o 2 = o + 2 := by
  have h2 : ∀ o, o < NP → kd o = 14 → rfn o 2 = o + 2 := by decide +kernel
  exact h2 o (kb_4 h) h
theorem lk_4_2 {o : Nat} (h : kd o = 14) : kd (o + 2) = 1 := by
  have h2 : ∀ o, o < NP → kd o = 14 → kd (o + 2) = 1 := by decide +kernel
  exact h2 o (kb_4 h) h
theorem la_4_2 {o : Nat} (h : kd o = 14) : al (o + 2) = 8 := by
  have h2 : ∀ o, o < NP → kd o = 14 → al (o + 2) = 8 := by decide +kernel
  exact h2 o (kb_4 h) h
theorem ly_4_3 {o : Nat} (h : kd o = 14) : rfn o 3 = o + 3 := by
  have h2 : ∀ o, o < NP → kd o = 14 → rfn o 3 = o + 3 := by decide +kernel
  exact h2 o (kb_4 h) h
theorem lk_4_3 {o : Nat} (h : kd o = 14) : kd (o + 3) = 1 := by
  have h2 : ∀ o, o < NP → kd o = 14 → kd (o + 3) = 1 := by decide +kernel
  exact h2 o (kb_4 h) h
theorem la_4_3 {o : Nat} (h : kd o = 14) : al (o + 3) = 8 := by
  have h2 : ∀ o, o < NP → kd o = 14 → al (o + 3) = 8 := by decide +kernel
  exact h2 o (kb_4 h) h
theorem ly_4_4 {o : Nat} (h : kd o = 14) : rfn o 4 = o + 4 := by
  have h2 : ∀ o, o < NP → kd o = 14 → rfn o 4 = o + 4 := by decide +kernel
  exact h2 o (kb_4 h) h
theorem lk_4_4 {o : Nat} (h : kd o = 14) : kd (o + 4) = 1 := by
  have h2 : ∀ o, o < NP → kd o = 14 → kd (o + 4) = 1 := by decide +kernel
  exact h2 o (kb_4 h) h
theorem la_4_4 {o : Nat} (h : kd o = 14) : al (o + 4) = 8 := by
  have h2 : ∀ o, o < NP → kd o = 14 → al (o + 4) = 8 := by decide +kernel
  exact h2 o (kb_4 h) h
theorem ly_4_5 {o : Nat} (h : kd o = 14) : rfn o 5 = o + 5 := by
  have h2 : ∀ o, o < NP → kd o = 14 → rfn o 5 = o + 5 := by decide +kernel
  exact h2 o (kb_4 h) h
theorem lk_4_5 {o : Nat} (h : kd o = 14) : kd (o + 5) = 1 := by
  have h2 : ∀ o, o < NP → kd o = 14 → kd (o + 5) = 1 := by decide +kernel
  exact h2 o (kb_4 h) h
theorem la_4_5 {o : Nat} (h : kd o = 14) : al (o + 5) = 8 := by
  have h2 : ∀ o, o < NP → kd o = 14 → al (o + 5) = 8 := by decide +kernel
  exact h2 o (kb_4 h) h
theorem ly_4_7 {o : Nat} (h : kd o = 14) : rfn o 7 = o + 6 := by
  have h2 : ∀ o, o < NP → kd o = 14 → rfn o 7 = o + 6 := by decide +kernel
  exact h2 o (kb_4 h) h
theorem lk_4_7 {o : Nat} (h : kd o = 14) : kd (o + 6) = 1 := by
  have h2 : ∀ o, o < NP → kd o = 14 → kd (o + 6) = 1 := by decide +kernel
  exact h2 o (kb_4 h) h
theorem la_4_7 {o : Nat} (h : kd o = 14) : al (o + 6) = 8 := by
  have h2 : ∀ o, o < NP → kd o = 14 → al (o + 6) = 8 := by decide +kernel
  exact h2 o (kb_4 h) h
theorem ly_4_8 {o : Nat} (h : kd o = 14) : rfn o 8 = o + 7 := by
  have h2 : ∀ o, o < NP → kd o = 14 → rfn o 8 = o + 7 := by decide +kernel
  exact h2 o (kb_4 h) h
theorem lk_4_8 {o : Nat} (h : kd o = 14) : kd (o + 7) = 1 := by
  have h2 : ∀ o, o < NP → kd o = 14 → kd (o + 7) = 1 := by decide +kernel
  exact h2 o (kb_4 h) h
theorem la_4_8 {o : Nat} (h : kd o = 14) : al (o + 7) = 8 := by
  have h2 : ∀ o, o < NP → kd o = 14 → al (o + 7) = 8 := by decide +kernel
  exact h2 o (kb_4 h) h
theorem ly_4_9 {o : Nat} (h : kd o = 14) : rfn o 9 = o + 8 := by
  have h2 : ∀ o, o < NP → kd o = 14 → rfn o 9 = o + 8 := by decide +kernel
  exact h2 o (kb_4 h) h
theorem lk_4_9 {o : Nat} (h : kd o = 14) : kd (o + 8) = 1 := by
  have h2 : ∀ o, o < NP → kd o = 14 → kd (o + 8) = 1 := by decide +kernel
  exact h2 o (kb_4 h) h
theorem la_4_9 {o : Nat} (h : kd o = 14) : al (o + 8) = 8 := by
  have h2 : ∀ o, o < NP → kd o = 14 → al (o + 8) = 8 := by decide +kernel
  exact h2 o (kb_4 h) h
theorem ly_4_10 {o : Nat} (h : kd o = 14) : rfn o 10 = o + 9 := by
  have h2 : ∀ o, o < NP → kd o = 14 → rfn o 10 = o + 9 := by decide +kernel
  exact h2 o (kb_4 h) h
theorem lk_4_10 {o : Nat} (h : kd o = 14) : kd (o + 9) = 1 := by
  have h2 : ∀ o, o < NP → kd o = 14 → kd (o + 9) = 1 := by decide +kernel
  exact h2 o (kb_4 h) h
theorem la_4_10 {o : Nat} (h : kd o = 14) : al (o + 9) = 20 := by
  have h2 : ∀ o, o < NP → kd o = 14 → al (o + 9) = 20 := by decide +kernel
  exact h2 o (kb_4 h) h
theorem kb_6 {o : Nat} (h : kd o = 16) : o < NP := kd_lt h (by decide)
theorem ly_6_0 {o : Nat} (h : kd o = 16) : rfn o 0 = 3 := by
  have h2 : ∀ o, o < NP → kd o = 16 → rfn o 0 = 3 := by decide +kernel
  exact h2 o (kb_6 h) h
theorem ly_6_1 {o : Nat} (h : kd o = 16) : rfn o 1 = o + 1 := by
  have h2 : ∀ o, o < NP → kd o = 16 → rfn o 1 = o + 1 := by decide +kernel
  exact h2 o (kb_6 h) h
theorem lk_6_1 {o : Nat} (h : kd o = 16) : kd (o + 1) = 1 := by
  have h2 : ∀ o, o < NP → kd o = 16 → kd (o + 1) = 1 := by decide +kernel
  exact h2 o (kb_6 h) h
theorem la_6_1 {o : Nat} (h : kd o = 16) : al (o + 1) = 8 := by
  have h2 : ∀ o, o < NP → kd o = 16 → al (o + 1) = 8 := by decide +kernel
  exact h2 o (kb_6 h) h
theorem ly_6_2 {o : Nat} (h : kd o = 16) : rfn o 2 = o + 2 := by
  have h2 : ∀ o, o < NP → kd o = 16 → rfn o 2 = o + 2 := by decide +kernel
  exact h2 o (kb_6 h) h
theorem lk_6_2 {o : Nat} (h : kd o = 16) : kd (o + 2) = 1 := by
  have h2 : ∀ o, o < NP → kd o = 16 → kd (o + 2) = 1 := by decide +kernel
  exact h2 o (kb_6 h) h
theorem la_6_2 {o : Nat} (h : kd o = 16) : al (o + 2) = 8 := by
  have h2 : ∀ o, o < NP → kd o = 16 → al (o + 2) = 8 := by decide +kernel
  exact h2 o (kb_6 h) h
theorem ly_6_3 {o : Nat} (h : kd o = 16) : rfn o 3 = o + 3 := by
  have h2 : ∀ o, o < NP → kd o = 16 → rfn o 3 = o + 3 := by decide +kernel
  exact h2 o (kb_6 h) h
theorem lk_6_3 {o : Nat} (h : kd o = 16) : kd (o + 3) = 1 := by
  have h2 : ∀ o, o < NP → kd o = 16 → kd (o + 3) = 1 := by decide +kernel
  exact h2 o (kb_6 h) h
theorem la_6_3 {o : Nat} (h : kd o = 16) : al (o + 3) = 8 := by
  have h2 : ∀ o, o < NP → kd o = 16 → al (o + 3) = 8 := by decide +kernel
  exact h2 o (kb_6 h) h
theorem ly_6_4 {o : Nat} (h : kd o = 16) : rfn o 4 = o + 4 := by
  have h2 : ∀ o, o < NP → kd o = 16 → rfn o 4 = o + 4 := by decide +kernel
  exact h2 o (kb_6 h) h
theorem lk_6_4 {o : Nat} (h : kd o = 16) : kd (o + 4) = 1 := by
  have h2 : ∀ o, o < NP → kd o = 16 → kd (o + 4) = 1 := by decide +kernel
  exact h2 o (kb_6 h) h
theorem la_6_4 {o : Nat} (h : kd o = 16) : al (o + 4) = 8 := by
  have h2 : ∀ o, o < NP → kd o = 16 → al (o + 4) = 8 := by decide +kernel
  exact h2 o (kb_6 h) h
theorem ly_6_5 {o : Nat} (h : kd o = 16) : rfn o 5 = o + 5 := by
  have h2 : ∀ o, o < NP → kd o = 16 → rfn o 5 = o + 5 := by decide +kernel
  exact h2 o (kb_6 h) h
theorem lk_6_5 {o : Nat} (h : kd o = 16) : kd (o + 5) = 1 := by
  have h2 : ∀ o, o < NP → kd o = 16 → kd (o + 5) = 1 := by decide +kernel
  exact h2 o (kb_6 h) h
theorem la_6_5 {o : Nat} (h : kd o = 16) : al (o + 5) = 8 := by
  have h2 : ∀ o, o < NP → kd o = 16 → al (o + 5) = 8 := by decide +kernel
  exact h2 o (kb_6 h) h
theorem ly_6_6 {o : Nat} (h : kd o = 16) : rfn o 6 = o + 6 := by
  have h2 : ∀ o, o < NP → kd o = 16 → rfn o 6 = o + 6 := by decide +kernel
  exact h2 o (kb_6 h) h
theorem lk_6_6 {o : Nat} (h : kd o = 16) : kd (o + 6) = 1 := by
  have h2 : ∀ o, o < NP → kd o = 16 → kd (o + 6) = 1 := by decide +kernel
  exact h2 o (kb_6 h) h
theorem la_6_6 {o : Nat} (h : kd o = 16) : al (o + 6) = 8 := by
  have h2 : ∀ o, o < NP → kd o = 16 → al (o + 6) = 8 := by decide +kernel
  exact h2 o (kb_6 h) h
theorem ly_6_7 {o : Nat} (h : kd o = 16) : rfn o 7 = o + 7 := by
  have h2 : ∀ o, o < NP → kd o = 16 → rfn o 7 = o + 7 := by decide +kernel
  exact h2 o (kb_6 h) h
theorem lk_6_7 {o : Nat} (h : kd o = 16) : kd (o + 7) = 1 := by
  have h2 : ∀ o, o < NP → kd o = 16 → kd (o + 7) = 1 := by decide +kernel
  exact h2 o (kb_6 h) h
theorem la_6_7 {o : Nat} (h : kd o = 16) : al (o + 7) = 8 := by
  have h2 : ∀ o, o < NP → kd o = 16 → al (o + 7) = 8 := by decide +kernel
  exact h2 o (kb_6 h) h
theorem kb_9 {o : Nat} (h : kd o = 19) : o < NP := kd_lt h (by decide)
theorem ly_9_0 {o : Nat} (h : kd o = 19) : rfn o 0 = o + 1 := by
  have h2 : ∀ o, o < NP → kd o = 19 → rfn o 0 = o + 1 := by decide +kernel
  exact h2 o (kb_9 h) h
theorem lk_9_0 {o : Nat} (h : kd o = 19) : kd (o + 1) = 1 := by
  have h2 : ∀ o, o < NP → kd o = 19 → kd (o + 1) = 1 := by decide +kernel
  exact h2 o (kb_9 h) h
theorem kb_7 {o : Nat} (h : kd o = 17) : o < NP := kd_lt h (by decide)
theorem ly_7_2 {o : Nat} (h : kd o = 17) : rfn o 2 = o + 1 := by
  have h2 : ∀ o, o < NP → kd o = 17 → rfn o 2 = o + 1 := by decide +kernel
  exact h2 o (kb_7 h) h
theorem lk_7_2 {o : Nat} (h : kd o = 17) : kd (o + 1) = 1 := by
  have h2 : ∀ o, o < NP → kd o = 17 → kd (o + 1) = 1 := by decide +kernel
  exact h2 o (kb_7 h) h
theorem la_7_2 {o : Nat} (h : kd o = 17) : al (o + 1) = 60 := by
  have h2 : ∀ o, o < NP → kd o = 17 → al (o + 1) = 60 := by decide +kernel
  exact h2 o (kb_7 h) h
theorem ra_1 {z : Int} (h : inb z 3) : rfn 1 z.toNat = 30 + 2 * z.toNat ∧ kd (30 + 2 * z.toNat) = 19 := by
  have h2 : ∀ n, n < 3 → rfn 1 n = 30 + 2 * n ∧ kd (30 + 2 * n) = 19 := by decide +kernel
  unfold inb at h
  exact h2 z.toNat (by omega)
theorem ra_29 {z : Int} (h : inb z 4) : rfn 29 z.toNat = 36 + 2 * z.toNat ∧ kd (36 + 2 * z.toNat) = 17 := by
  have h2 : ∀ n, n < 4 → rfn 29 n = 36 + 2 * n ∧ kd (36 + 2 * n) = 17 := by decide +kernel
  unfold inb at h
  exact h2 z.toNat (by omega)
