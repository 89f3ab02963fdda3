theorem fl_RX11_11 : sr_FL RX11 11 11 0 := ⟨(RX11, TX11, 13), rfl, by decide, rfl, uw_11, wm_395⟩
theorem fl_RX11_15 : sr_FL RX11 15 11 1 := ⟨(RX11, TX11, 13), rfl, by decide, rfl, uw_11, wm_396⟩
theorem fl_RX11_22 : sr_FL RX11 22 11 2 := ⟨(RX11, TX11, 13), rfl, by decide, rfl, uw_11, wm_397⟩
theorem fl_RX11_29 : sr_FL RX11 29 11 3 := ⟨(RX11, TX11, 13), rfl, by decide, rfl, uw_11, wm_398⟩
theorem fl_RX11_38 : sr_FL RX11 38 11 4 := ⟨(RX11, TX11, 13), rfl, by decide, rfl, uw_11, wm_399⟩
theorem fl_RX11_45 : sr_FL RX11 45 11 5 := ⟨(RX11, TX11, 13), rfl, by decide, rfl, uw_11, wm_400⟩
theorem fl_RX11_52 : sr_FL RX11 52 11 6 := ⟨(RX11, TX11, 13), rfl, by decide, rfl, uw_11, wm_401⟩
theorem fl_RX11_58 : sr_FL RX11 58 11 10 := ⟨(RX11, TX11, 13), rfl, by decide, rfl, uw_11, wm_405⟩
theorem fl_RX11_62 : sr_FL RX11 62 11 11 := ⟨(RX11, TX11, 13), rfl, by decide, rfl, uw_11, wm_406⟩
theorem fp_RX11_62 : sr_FP RX11 62 11 11 := ⟨(RX11, TX11, 13), tyX11, rfl, by decide, rfl, uw_11, wm_406, tyX11_ok, nmX11, rfl, Or.inl ⟨rfl, rfl⟩⟩
theorem fl_RX11_66 : sr_FL RX11 66 11 12 := ⟨(RX11, TX11, 13), rfl, by decide, rfl, uw_11, wm_407⟩
theorem fp_RX11_66 : sr_FP RX11 66 11 12 := ⟨(RX11, TX11, 13), tyX11, rfl, by decide, rfl, uw_11, wm_407, tyX11_ok, nmX11, rfl, Or.inr (Or.inr ⟨rfl, rfl⟩)⟩
theorem fl_RX11_82 : sr_FL RX11 82 11 7 := ⟨(RX11, TX11, 13), rfl, by decide, rfl, uw_11, wm_402⟩
theorem fl_RX11_91 : sr_FL RX11 91 11 8 := ⟨(RX11, TX11, 13), rfl, by decide, rfl, uw_11, wm_403⟩
theorem fl_RX11_98 : sr_FL RX11 98 11 9 := ⟨(RX11, TX11, 13), rfl, by decide, rfl, uw_11, wm_404⟩
theorem fl_RX11_113 : sr_FL RX11 113 9 1 := ⟨(RX9, TX9, 2), rfl, by decide, rfl, uw_9, wm_242⟩
theorem fp_RX11_113 : sr_FP RX11 113 9 1 := ⟨(RX9, TX9, 2), tyX9, rfl, by decide, rfl, uw_9, wm_242, tyX9_ok, nmX9, rfl, Or.inl ⟨rfl, rfl⟩⟩
theorem fl_RX11_116 : sr_FL RX11 116 10 0 := ⟨(RX10, TX10, 3), rfl, by decide, rfl, uw_10, wm_38⟩
theorem fp_RX11_116 : sr_FP RX11 116 10 0 := ⟨(RX10, TX10, 3), tyX10, rfl, by decide, rfl, uw_10, wm_38, tyX10_ok, nmX10, rfl, Or.inl ⟨rfl, rfl⟩⟩
theorem fl_RX11_125 : sr_FL RX11 125 4 7 := ⟨(RX4, TX4, 12), rfl, by decide, rfl, uw_4, wm_99⟩
theorem fl_RX11_128 : sr_FL RX11 128 4 8 := ⟨(RX4, TX4, 12), rfl, by decide, rfl, uw_4, wm_101⟩
theorem fl_RX11_131 : sr_FL RX11 131 4 9 := ⟨(RX4, TX4, 12), rfl, by decide, rfl, uw_4, wm_103⟩
theorem fl_RX11_134 : sr_FL RX11 134 4 10 := ⟨(RX4, TX4, 12), rfl, by decide, rfl, uw_4, wm_108⟩
theorem fl_RX11_137 : sr_FL RX11 137 4 11 := ⟨(RX4, TX4, 12), rfl, by decide, rfl, uw_4, wm_112⟩
theorem fp_RX11_137 : sr_FP RX11 137 4 11 := ⟨(RX4, TX4, 12), tyX4, rfl, by decide, rfl, uw_4, wm_112, tyX4_ok, nmX4, rfl, Or.inl ⟨rfl, rfl⟩⟩
theorem fl_RX11_144 : sr_FL RX11 144 4 0 := ⟨(RX4, TX4, 12), rfl, by decide, rfl, uw_4, wm_67⟩
theorem fp_RX11_144 : sr_FP RX11 144 4 0 := ⟨(RX4, TX4, 12), tyX4, rfl, by decide, rfl, uw_4, wm_67, tyX4_ok, nmX4, rfl, Or.inl ⟨rfl, rfl⟩⟩
theorem fl_RX11_154 : sr_FL RX11 154 4 1 := ⟨(RX4, TX4, 12), rfl, by decide, rfl, uw_4, wm_73⟩
theorem fl_RX11_157 : sr_FL RX11 157 4 2 := ⟨(RX4, TX4, 12), rfl, by decide, rfl, uw_4, wm_77⟩
theorem fl_RX11_160 : sr_FL RX11 160 4 3 := ⟨(RX4, TX4, 12), rfl, by decide, rfl, uw_4, wm_81⟩
theorem fl_RX11_163 : sr_FL RX11 163 4 4 := ⟨(RX4, TX4, 12), rfl, by decide, rfl, uw_4, wm_85⟩
theorem fl_RX11_166 : sr_FL RX11 166 4 5 := ⟨(RX4, TX4, 12), rfl, by decide, rfl, uw_4, wm_88⟩
theorem fl_RX11_177 : sr_FL RX11 177 7 1 := ⟨(RX7, TX7, 3), rfl, by decide, rfl, uw_7, wm_258⟩
theorem fp_RX11_177 : sr_FP RX11 177 7 1 := ⟨(RX7, TX7, 3), tyX7, rfl, by decide, rfl, uw_7, wm_258, tyX7_ok, nmX7, rfl, Or.inl ⟨rfl, rfl⟩⟩
theorem fl_RX11_188 : sr_FL RX11 188 6 5 := ⟨(RX6, TX6, 13), rfl, by decide, rfl, uw_6, wm_157⟩
theorem fl_RX11_191 : sr_FL RX11 191 6 6 := ⟨(RX6, TX6, 13), rfl, by decide, rfl, uw_6, wm_159⟩
theorem fl_RX11_194 : sr_FL RX11 194 6 7 := ⟨(RX6, TX6, 13), rfl, by decide, rfl, uw_6, wm_162⟩
theorem fl_RX11_204 : sr_FL RX11 204 6 9 := ⟨(RX6, TX6, 13), rfl, by decide, rfl, uw_6, wm_168⟩
theorem fp_RX11_204 : sr_FP RX11 204 6 9 := ⟨(RX6, TX6, 13), tyX6, rfl, by decide, rfl, uw_6, wm_168, tyX6_ok, nmX6, rfl, Or.inl ⟨rfl, rfl⟩⟩
theorem fl_RX11_207 : sr_FL RX11 207 6 10 := ⟨(RX6, TX6, 13), rfl, by decide, rfl, uw_6, wm_170⟩
theorem fp_RX11_207 : sr_FP RX11 207 6 10 := ⟨(RX6, TX6, 13), tyX6, rfl, by decide, rfl, uw_6, wm_170, tyX6_ok, nmX6, rfl, Or.inl ⟨rfl, rfl⟩⟩
theorem fl_RX11_210 : sr_FL RX11 210 6 1 := ⟨(RX6, TX6, 13), rfl, by decide, rfl, uw_6, wm_147⟩
theorem fl_RX11_218 : sr_FL RX11 218 4 6 := ⟨(RX4, TX4, 12), rfl, by decide, rfl, uw_4, wm_95⟩
theorem fp_RX11_218 : sr_FP RX11 218 4 6 := ⟨(RX4, TX4, 12), tyX4, rfl, by decide, rfl, uw_4, wm_95, tyX4_ok, nmX4, rfl, Or.inl ⟨rfl, rfl⟩⟩
theorem fl_RX11_228 : sr_FL RX11 228 5 4 := ⟨(RX5, TX5, 10), rfl, by decide, rfl, uw_5, wm_295⟩
theorem fp_RX11_228 : sr_FP RX11 228 5 4 := ⟨(RX5, TX5, 10), tyX5, rfl, by decide, rfl, uw_5, wm_295, tyX5_ok, nmX5, rfl, Or.inl ⟨rfl, rfl⟩⟩
theorem fl_RX11_231 : sr_FL RX11 231 5 5 := ⟨(RX5, TX5, 10), rfl, by decide, rfl, uw_5, wm_297⟩
theorem fp_RX11_231 : sr_FP RX11 231 5 5 := ⟨(RX5, TX5, 10), tyX5, rfl, by decide, rfl, uw_5, wm_297, tyX5_ok, nmX5, rfl, Or.inl ⟨rfl, rfl⟩⟩
theorem fl_RX11_234 : sr_FL RX11 234 5 6 := ⟨(RX5, TX5, 10), rfl, by decide, rfl, uw_5, wm_299⟩
theorem fp_RX11_234 : sr_FP RX11 234 5 6 := ⟨(RX5, TX5, 10), tyX5, rfl, by decide, rfl, uw_5, wm_299, tyX5_ok, nmX5, rfl, Or.inl ⟨rfl, rfl⟩⟩
theorem fl_RX11_243 : sr_FL RX11 243 5 9 := ⟨(RX5, TX5, 10), rfl, by decide, rfl, uw_5, wm_305⟩
theorem fl_RX11_255 : sr_FL RX11 255 5 7 := ⟨(RX5, TX5, 10), rfl, by decide, rfl, uw_5, wm_301⟩
theorem fp_RX11_255 : sr_FP RX11 255 5 7 := ⟨(RX5, TX5, 10), tyX5, rfl, by decide, rfl, uw_5, wm_301, tyX5_ok, nmX5, rfl, Or.inl ⟨rfl, rfl⟩⟩
theorem fl_RX11_258 : sr_FL RX11 258 5 8 := ⟨(RX5, TX5, 10), rfl, by decide, rfl, uw_5, wm_303⟩
theorem fp_RX11_258 : sr_FP RX11 258 5 8 := ⟨(RX5, TX5, 10), tyX5, rfl, by decide, rfl, uw_5, wm_303, tyX5_ok, nmX5, rfl, Or.inl ⟨rfl, rfl⟩⟩
theorem fl_RX11_269 : sr_FL RX11 269 8 2 := ⟨(RX8, TX8, 3), rfl, by decide, rfl, uw_8, wm_220⟩
theorem fp_RX11_269 : sr_FP RX11 269 8 2 := ⟨(RX8, TX8, 3), tyX8, rfl, by decide, rfl, uw_8, wm_220, tyX8_ok, nmX8, rfl, Or.inl ⟨rfl, rfl⟩⟩
theorem fl_RX11_302 : sr_FL RX11 302 0 8 := ⟨(RX0, TX0, 10), rfl, by decide, rfl, uw_0, wm_370⟩
theorem fp_RX11_302 : sr_FP RX11 302 0 8 := ⟨(RX0, TX0, 10), tyX0, rfl, by decide, rfl, uw_0, wm_370, tyX0_ok, nmX0, rfl, Or.inl ⟨rfl, rfl⟩⟩
theorem fl_RX11_305 : sr_FL RX11 305 0 9 := ⟨(RX0, TX0, 10), rfl, by decide, rfl, uw_0, wm_372⟩
theorem fp_RX11_305 : sr_FP RX11 305 0 9 := ⟨(RX0, TX0, 10), tyX0, rfl, by decide, rfl, uw_0, wm_372, tyX0_ok, nmX0, rfl, Or.inl ⟨rfl, rfl⟩⟩
theorem fl_RX11_324 : sr_FL RX11 324 7 2 := ⟨(RX7, TX7, 3), rfl, by decide, rfl, uw_7, wm_260⟩
theorem fl_RX11_338 : sr_FL RX11 338 6 8 := ⟨(RX6, TX6, 13), rfl, by decide, rfl, uw_6, wm_166⟩
theorem fp_RX11_338 : sr_FP RX11 338 6 8 := ⟨(RX6, TX6, 13), tyX6, rfl, by decide, rfl, uw_6, wm_166, tyX6_ok, nmX6, rfl, Or.inl ⟨rfl, rfl⟩⟩
theorem fl_RX0_9 : sr_FL RX0 9 0 4 := ⟨(RX0, TX0, 10), rfl, by decide, rfl, uw_0, wm_365⟩
theorem fl_RX0_15 : sr_FL RX0 15 0 5 := ⟨(RX0, TX0, 10), rfl, by decide, rfl, uw_0, wm_366⟩
theorem fp_RX0_15 : sr_FP RX0 15 0 5 := ⟨(RX0, TX0, 10), tyX0, rfl, by decide, rfl, uw_0, wm_366, tyX0_ok, nmX0, rfl, Or.inl ⟨rfl, rfl⟩⟩
theorem fl_RX0_19 : sr_FL RX0 19 0 6 := ⟨(RX0, TX0, 10), rfl, by decide, rfl, uw_0, wm_367⟩
theorem fl_RX0_23 : sr_FL RX0 23 0 7 := ⟨(RX0, TX0, 10), rfl, by decide, rfl, uw_0, wm_368⟩
theorem fp_RX0_23 : sr_FP RX0 23 0 7 := ⟨(RX0, TX0, 10), tyX0, rfl, by decide, rfl, uw_0, wm_368, tyX0_ok, nmX0, rfl, Or.inl ⟨rfl, rfl⟩⟩
theorem fl_RX0_26 : sr_FL RX0 26 0 8 := ⟨(RX0, TX0, 10), rfl, by decide, rfl, uw_0, wm_369⟩
theorem fp_RX0_26 : sr_FP RX0 26 0 8 := ⟨(RX0, TX0, 10), tyX0, rfl, by decide, rfl, uw_0, wm_369, tyX0_ok, nmX0, rfl, Or.inl ⟨rfl, rfl⟩⟩
theorem fl_RX0_29 : sr_FL RX0 29 0 9 := ⟨(RX0, TX0, 10), rfl, by decide, rfl, uw_0, wm_371⟩
theorem fp_RX0_29 : sr_FP RX0 29 0 9 := ⟨(RX0, TX0, 10), tyX0, rfl, by decide, rfl, uw_0, wm_371, tyX0_ok, nmX0, rfl, Or.inl ⟨rfl, rfl⟩⟩
theorem fl_RX0_32 : sr_FL RX0 32 0 0 := ⟨(RX0, TX0, 10), rfl, by decide, rfl, uw_0, wm_361⟩
theorem fl_RX0_36 : sr_FL RX0 36 0 1 := ⟨(RX0, TX0, 10), rfl, by decide, rfl, uw_0, wm_362⟩
theorem fl_RX0_40 : sr_FL RX0 40 0 2 := ⟨(RX0, TX0, 10), rfl, by decide, rfl, uw_0, wm_363⟩
theorem fl_RX0_43 : sr_FL RX0 43 0 3 := ⟨(RX0, TX0, 10), rfl, by decide, rfl, uw_0, wm_364⟩
theorem fl_RX0_77 : sr_FL RX0 77 4 0 := ⟨(RX4, TX4, 12), rfl, by decide, rfl, uw_4, wm_64⟩
theorem fp_RX0_77 : sr_FP RX0 77 4 0 := ⟨(RX4, TX4, 12), tyX4, rfl, by decide, rfl, uw_4, wm_64, tyX4_ok, nmX4, rfl, Or.inl ⟨rfl, rfl⟩⟩
theorem fl_RX0_80 : sr_FL RX0 80 4 1 := ⟨(RX4, TX4, 12), rfl, by decide, rfl, uw_4, wm_69⟩
theorem fl_RX0_89 : sr_FL RX0 89 4 10 := ⟨(RX4, TX4, 12), rfl, by decide, rfl, uw_4, wm_105⟩
theorem fl_RX0_97 : sr_FL RX0 97 4 6 := ⟨(RX4, TX4, 12), rfl, by decide, rfl, uw_4, wm_92⟩
theorem fp_RX0_97 : sr_FP RX0 97 4 6 := ⟨(RX4, TX4, 12), tyX4, rfl, by decide, rfl, uw_4, wm_92, tyX4_ok, nmX4, rfl, Or.inl ⟨rfl, rfl⟩⟩
theorem fl_RX0_100 : sr_FL RX0 100 6 7 := ⟨(RX6, TX6, 13), rfl, by decide, rfl, uw_6, wm_161⟩
theorem fl_RX0_111 : sr_FL RX0 111 10 0 := ⟨(RX10, TX10, 3), rfl, by decide, rfl, uw_10, wm_40⟩
theorem fp_RX0_111 : sr_FP RX0 111 10 0 := ⟨(RX10, TX10, 3), tyX10, rfl, by decide, rfl, uw_10, wm_40, tyX10_ok, nmX10, rfl, Or.inl ⟨rfl, rfl⟩⟩
theorem fl_RX0_123 : sr_FL RX0 123 6 8 := ⟨(RX6, TX6, 13), rfl, by decide, rfl, uw_6, wm_165⟩
theorem fp_RX0_123 : sr_FP RX0 123 6 8 := ⟨(RX6, TX6, 13), tyX6, rfl, by decide, rfl, uw_6, wm_165, tyX6_ok, nmX6, rfl, Or.inl ⟨rfl, rfl⟩⟩
theorem fl_RX1_9 : sr_FL RX1 9 1 0 := ⟨(RX1, TX1, 1), rfl, by decide, rfl, uw_1, wm_206⟩
theorem fl_RX1_15 : sr_FL RX1 15 6 1 := ⟨(RX6, TX6, 13), rfl, by decide, rfl, uw_6, wm_146⟩
theorem fl_RX1_20 : sr_FL RX1 20 6 2 := ⟨(RX6, TX6, 13), rfl, by decide, rfl, uw_6, wm_149⟩
theorem fl_RX1_23 : sr_FL RX1 23 6 3 := ⟨(RX6, TX6, 13), rfl, by decide, rfl, uw_6, wm_151⟩
theorem fl_RX1_26 : sr_FL RX1 26 6 4 := ⟨(RX6, TX6, 13), rfl, by decide, rfl, uw_6, wm_154⟩
theorem fl_RX2_9 : sr_FL RX2 9 2 0 := ⟨(RX2, TX2, 3), rfl, by decide, rfl, uw_2, wm_280⟩
theorem fp_RX2_9 : sr_FP RX2 9 2 0 := ⟨(RX2, TX2, 3), tyX2, rfl, by decide, rfl, uw_2, wm_280, tyX2_ok, nmX2, rfl, Or.inl ⟨rfl, rfl⟩⟩
theorem fl_RX2_15 : sr_FL RX2 15 2 1 := ⟨(RX2, TX2, 3), rfl, by decide, rfl, uw_2, wm_281⟩
theorem fp_RX2_15 : sr_FP RX2 15 2 1 := ⟨(RX2, TX2, 3), tyX2, rfl, by decide, rfl, uw_2, wm_281, tyX2_ok, nmX2, rfl, Or.inl ⟨rfl, rfl⟩⟩
theorem fl_RX2_18 : sr_FL RX2 18 2 2 := ⟨(RX2, TX2, 3), rfl, by decide, rfl, uw_2, wm_282⟩
theorem fp_RX2_18 : sr_FP RX2 18 2 2 := ⟨(RX2, TX2, 3), tyX2, rfl, by decide, rfl, uw_2, wm_282, tyX2_ok, nmX2, rfl, Or.inl ⟨rfl, rfl⟩⟩
theorem fl_RX3_9 : sr_FL RX3 9 3 5 := ⟨(RX3, TX3, 7), rfl, by decide, rfl, uw_3, wm_338⟩
theorem fp_RX3_9 : sr_FP RX3 9 3 5 := ⟨(RX3, TX3, 7), tyX3, rfl, by decide, rfl, uw_3, wm_338, tyX3_ok, nmX3, rfl, Or.inr (Or.inl ⟨rfl, rfl⟩)⟩
theorem fl_RX3_15 : sr_FL RX3 15 3 6 := ⟨(RX3, TX3, 7), rfl, by decide, rfl, uw_3, wm_339⟩
theorem fl_RX3_19 : sr_FL RX3 19 3 0 := ⟨(RX3, TX3, 7), rfl, by decide, rfl, uw_3, wm_333⟩
theorem fl_RX3_23 : sr_FL RX3 23 3 1 := ⟨(RX3, TX3, 7), rfl, by decide, rfl, uw_3, wm_334⟩
theorem fl_RX3_27 : sr_FL RX3 27 3 2 := ⟨(RX3, TX3, 7), rfl, by decide, rfl, uw_3, wm_335⟩
theorem fl_RX3_30 : sr_FL RX3 30 3 3 := ⟨(RX3, TX3, 7), rfl, by decide, rfl, uw_3, wm_336⟩
theorem fl_RX3_34 : sr_FL RX3 34 3 4 := ⟨(RX3, TX3, 7), rfl, by decide, rfl, uw_3, wm_337⟩
theorem fl_RX3_38 : sr_FL RX3 38 8 2 := ⟨(RX8, TX8, 3), rfl, by decide, rfl, uw_8, wm_219⟩
theorem fp_RX3_38 : sr_FP RX3 38 8 2 := ⟨(RX8, TX8, 3), tyX8, rfl, by decide, rfl, uw_8, wm_219, tyX8_ok, nmX8, rfl, Or.inl ⟨rfl, rfl⟩⟩
theorem fl_RX3_59 : sr_FL RX3 59 4 0 := ⟨(RX4, TX4, 12), rfl, by decide, rfl, uw_4, wm_65⟩
theorem fp_RX3_59 : sr_FP RX3 59 4 0 := ⟨(RX4, TX4, 12), tyX4, rfl, by decide, rfl, uw_4, wm_65, tyX4_ok, nmX4, rfl, Or.inl ⟨rfl, rfl⟩⟩
theorem fl_RX3_62 : sr_FL RX3 62 4 1 := ⟨(RX4, TX4, 12), rfl, by decide, rfl, uw_4, wm_70⟩
theorem fl_RX3_69 : sr_FL RX3 69 10 0 := ⟨(RX10, TX10, 3), rfl, by decide, rfl, uw_10, wm_37⟩
theorem fp_RX3_69 : sr_FP RX3 69 10 0 := ⟨(RX10, TX10, 3), tyX10, rfl, by decide, rfl, uw_10, wm_37, tyX10_ok, nmX10, rfl, Or.inl ⟨rfl, rfl⟩⟩
theorem fl_RX3_74 : sr_FL RX3 74 4 2 := ⟨(RX4, TX4, 12), rfl, by decide, rfl, uw_4, wm_75⟩
theorem fl_RX3_83 : sr_FL RX3 83 4 11 := ⟨(RX4, TX4, 12), rfl, by decide, rfl, uw_4, wm_111⟩
theorem fp_RX3_83 : sr_FP RX3 83 4 11 := ⟨(RX4, TX4, 12), tyX4, rfl, by decide, rfl, uw_4, wm_111, tyX4_ok, nmX4, rfl, Or.inl ⟨rfl, rfl⟩⟩
theorem fl_RX3_95 : sr_FL RX3 95 4 6 := ⟨(RX4, TX4, 12), rfl, by decide, rfl, uw_4, wm_93⟩
theorem fp_RX3_95 : sr_FP RX3 95 4 6 := ⟨(RX4, TX4, 12), tyX4, rfl, by decide, rfl, uw_4, wm_93, tyX4_ok, nmX4, rfl, Or.inl ⟨rfl, rfl⟩⟩
theorem fl_RX4_9 : sr_FL RX4 9 4 0 := ⟨(RX4, TX4, 12), rfl, by decide, rfl, uw_4, wm_62⟩
theorem fp_RX4_9 : sr_FP RX4 9 4 0 := ⟨(RX4, TX4, 12), tyX4, rfl, by decide, rfl, uw_4, wm_62, tyX4_ok, nmX4, rfl, Or.inl ⟨rfl, rfl⟩⟩
theorem fl_RX4_15 : sr_FL RX4 15 4 1 := ⟨(RX4, TX4, 12), rfl, by decide, rfl, uw_4, wm_68⟩
theorem fl_RX4_19 : sr_FL RX4 19 4 2 := ⟨(RX4, TX4, 12), rfl, by decide, rfl, uw_4, wm_74⟩
theorem fl_RX4_22 : sr_FL RX4 22 4 3 := ⟨(RX4, TX4, 12), rfl, by decide, rfl, uw_4, wm_78⟩
theorem fl_RX4_25 : sr_FL RX4 25 4 4 := ⟨(RX4, TX4, 12), rfl, by decide, rfl, uw_4, wm_82⟩
theorem fl_RX4_28 : sr_FL RX4 28 4 5 := ⟨(RX4, TX4, 12), rfl, by decide, rfl, uw_4, wm_86⟩
theorem fl_RX4_31 : sr_FL RX4 31 4 6 := ⟨(RX4, TX4, 12), rfl, by decide, rfl, uw_4, wm_89⟩
theorem fp_RX4_31 : sr_FP RX4 31 4 6 := ⟨(RX4, TX4, 12), tyX4, rfl, by decide, rfl, uw_4, wm_89, tyX4_ok, nmX4, rfl, Or.inl ⟨rfl, rfl⟩⟩
theorem fl_RX4_34 : sr_FL RX4 34 4 7 := ⟨(RX4, TX4, 12), rfl, by decide, rfl, uw_4, wm_96⟩
theorem fl_RX4_37 : sr_FL RX4 37 4 8 := ⟨(RX4, TX4, 12), rfl, by decide, rfl, uw_4, wm_100⟩
theorem fl_RX4_40 : sr_FL RX4 40 4 9 := ⟨(RX4, TX4, 12), rfl, by decide, rfl, uw_4, wm_102⟩
theorem fl_RX4_43 : sr_FL RX4 43 4 10 := ⟨(RX4, TX4, 12), rfl, by decide, rfl, uw_4, wm_104⟩
theorem fl_RX4_46 : sr_FL RX4 46 4 11 := ⟨(RX4, TX4, 12), rfl, by decide, rfl, uw_4, wm_109⟩
theorem fp_RX4_46 : sr_FP RX4 46 4 11 := ⟨(RX4, TX4, 12), tyX4, rfl, by decide, rfl, uw_4, wm_109, tyX4_ok, nmX4, rfl, Or.inl ⟨rfl, rfl⟩⟩
theorem fl_RX4_65 : sr_FL RX4 65 9 1 := ⟨(RX9, TX9, 2), rfl, by decide, rfl, uw_9, wm_244⟩
theorem fp_RX4_65 : sr_FP RX4 65 9 1 := ⟨(RX9, TX9, 2), tyX9, rfl, by decide, rfl, uw_9, wm_244, tyX9_ok, nmX9, rfl, Or.inl ⟨rfl, rfl⟩⟩
theorem fl_RX5_9 : sr_FL RX5 9 5 4 := ⟨(RX5, TX5, 10), rfl, by decide, rfl, uw_5, wm_294⟩
theorem fp_RX5_9 : sr_FP RX5 9 5 4 := ⟨(RX5, TX5, 10), tyX5, rfl, by decide, rfl, uw_5, wm_294, tyX5_ok, nmX5, rfl, Or.inl ⟨rfl, rfl⟩⟩
theorem fl_RX5_15 : sr_FL RX5 15 5 5 := ⟨(RX5, TX5, 10), rfl, by decide, rfl, uw_5, wm_296⟩
theorem fp_RX5_15 : sr_FP RX5 15 5 5 := ⟨(RX5, TX5, 10), tyX5, rfl, by decide, rfl, uw_5, wm_296, tyX5_ok, nmX5, rfl, Or.inl ⟨rfl, rfl⟩⟩
theorem fl_RX5_18 : sr_FL RX5 18 5 6 := ⟨(RX5, TX5, 10), rfl, by decide, rfl, uw_5, wm_298⟩
theorem fp_RX5_18 : sr_FP RX5 18 5 6 := ⟨(RX5, TX5, 10), tyX5, rfl, by decide, rfl, uw_5, wm_298, tyX5_ok, nmX5, rfl, Or.inl ⟨rfl, rfl⟩⟩
theorem fl_RX5_21 : sr_FL RX5 21 5 7 := ⟨(RX5, TX5, 10), rfl, by decide, rfl, uw_5, wm_300⟩
theorem fp_RX5_21 : sr_FP RX5 21 5 7 := ⟨(RX5, TX5, 10), tyX5, rfl, by decide, rfl, uw_5, wm_300, tyX5_ok, nmX5, rfl, Or.inl ⟨rfl, rfl⟩⟩
theorem fl_RX5_24 : sr_FL RX5 24 5 8 := ⟨(RX5, TX5, 10), rfl, by decide, rfl, uw_5, wm_302⟩
theorem fp_RX5_24 : sr_FP RX5 24 5 8 := ⟨(RX5, TX5, 10), tyX5, rfl, by decide, rfl, uw_5, wm_302, tyX5_ok, nmX5, rfl, Or.inl ⟨rfl, rfl⟩⟩
theorem fl_RX5_30 : sr_FL RX5 30 5 9 := ⟨(RX5, TX5, 10), rfl, by decide, rfl, uw_5, wm_304⟩
theorem fl_RX5_34 : sr_FL RX5 34 5 0 := ⟨(RX5, TX5, 10), rfl, by decide, rfl, uw_5, wm_290⟩
theorem fl_RX5_38 : sr_FL RX5 38 5 1 := ⟨(RX5, TX5, 10), rfl, by decide, rfl, uw_5, wm_291⟩
theorem fl_RX5_42 : sr_FL RX5 42 5 2 := ⟨(RX5, TX5, 10), rfl, by decide, rfl, uw_5, wm_292⟩
theorem fl_RX5_45 : sr_FL RX5 45 5 3 := ⟨(RX5, TX5, 10), rfl, by decide, rfl, uw_5, wm_293⟩
theorem fl_RX5_55 : sr_FL RX5 55 4 4 := ⟨(RX4, TX4, 12), rfl, by decide, rfl, uw_4, wm_83⟩
theorem fl_RX5_64 : sr_FL RX5 64 6 5 := ⟨(RX6, TX6, 13), rfl, by decide, rfl, uw_6, wm_156⟩
theorem fl_RX5_67 : sr_FL RX5 67 6 4 := ⟨(RX6, TX6, 13), rfl, by decide, rfl, uw_6, wm_153⟩
theorem fl_RX5_70 : sr_FL RX5 70 4 3 := ⟨(RX4, TX4, 12), rfl, by decide, rfl, uw_4, wm_79⟩
theorem fl_RX5_73 : sr_FL RX5 73 6 8 := ⟨(RX6, TX6, 13), rfl, by decide, rfl, uw_6, wm_164⟩
theorem fp_RX5_73 : sr_FP RX5 73 6 8 := ⟨(RX6, TX6, 13), tyX6, rfl, by decide, rfl, uw_6, wm_164, tyX6_ok, nmX6, rfl, Or.inl ⟨rfl, rfl⟩⟩
theorem fl_RX5_76 : sr_FL RX5 76 10 0 := ⟨(RX10, TX10, 3), rfl, by decide, rfl, uw_10, wm_36⟩
theorem fp_RX5_76 : sr_FP RX5 76 10 0 := ⟨(RX10, TX10, 3), tyX10, rfl, by decide, rfl, uw_10, wm_36, tyX10_ok, nmX10, rfl, Or.inl ⟨rfl, rfl⟩⟩
theorem fl_RX5_81 : sr_FL RX5 81 4 7 := ⟨(RX4, TX4, 12), rfl, by decide, rfl, uw_4, wm_98⟩
theorem fl_RX5_95 : sr_FL RX5 95 4 0 := ⟨(RX4, TX4, 12), rfl, by decide, rfl, uw_4, wm_66⟩
theorem fp_RX5_95 : sr_FP RX5 95 4 0 := ⟨(RX4, TX4, 12), tyX4, rfl, by decide, rfl, uw_4, wm_66, tyX4_ok, nmX4, rfl, Or.inl ⟨rfl, rfl⟩⟩
theorem fl_RX5_98 : sr_FL RX5 98 4 1 := ⟨(RX4, TX4, 12), rfl, by decide, rfl, uw_4, wm_72⟩
theorem fl_RX5_101 : sr_FL RX5 101 4 10 := ⟨(RX4, TX4, 12), rfl, by decide, rfl, uw_4, wm_107⟩
theorem fl_RX5_111 : sr_FL RX5 111 4 6 := ⟨(RX4, TX4, 12), rfl, by decide, rfl, uw_4, wm_94⟩
theorem fp_RX5_111 : sr_FP RX5 111 4 6 := ⟨(RX4, TX4, 12), tyX4, rfl, by decide, rfl, uw_4, wm_94, tyX4_ok, nmX4, rfl, Or.inl ⟨rfl, rfl⟩⟩
theorem fl_RX6_9 : sr_FL RX6 9 6 1 := ⟨(RX6, TX6, 13), rfl, by decide, rfl, uw_6, wm_145⟩
theorem fl_RX6_15 : sr_FL RX6 15 6 2 := ⟨(RX6, TX6, 13), rfl, by decide, rfl, uw_6, wm_148⟩
theorem fl_RX6_18 : sr_FL RX6 18 6 3 := ⟨(RX6, TX6, 13), rfl, by decide, rfl, uw_6, wm_150⟩
theorem fl_RX6_21 : sr_FL RX6 21 6 4 := ⟨(RX6, TX6, 13), rfl, by decide, rfl, uw_6, wm_152⟩
theorem fl_RX6_24 : sr_FL RX6 24 6 5 := ⟨(RX6, TX6, 13), rfl, by decide, rfl, uw_6, wm_155⟩
theorem fl_RX6_27 : sr_FL RX6 27 6 6 := ⟨(RX6, TX6, 13), rfl, by decide, rfl, uw_6, wm_158⟩
theorem fl_RX6_30 : sr_FL RX6 30 6 7 := ⟨(RX6, TX6, 13), rfl, by decide, rfl, uw_6, wm_160⟩
theorem fl_RX6_33 : sr_FL RX6 33 6 8 := ⟨(RX6, TX6, 13), rfl, by decide, rfl, uw_6, wm_163⟩
theorem fp_RX6_33 : sr_FP RX6 33 6 8 := ⟨(RX6, TX6, 13), tyX6, rfl, by decide, rfl, uw_6, wm_163, tyX6_ok, nmX6, rfl, Or.inl ⟨rfl, rfl⟩⟩
theorem fl_RX6_37 : sr_FL RX6 37 6 9 := ⟨(RX6, TX6, 13), rfl, by decide, rfl, uw_6, wm_167⟩
theorem fp_RX6_37 : sr_FP RX6 37 6 9 := ⟨(RX6, TX6, 13), tyX6, rfl, by decide, rfl, uw_6, wm_167, tyX6_ok, nmX6, rfl, Or.inl ⟨rfl, rfl⟩⟩
theorem fl_RX6_40 : sr_FL RX6 40 6 10 := ⟨(RX6, TX6, 13), rfl, by decide, rfl, uw_6, wm_169⟩
theorem fp_RX6_40 : sr_FP RX6 40 6 10 := ⟨(RX6, TX6, 13), tyX6, rfl, by decide, rfl, uw_6, wm_169, tyX6_ok, nmX6, rfl, Or.inl ⟨rfl, rfl⟩⟩
theorem fl_RX6_43 : sr_FL RX6 43 6 11 := ⟨(RX6, TX6, 13), rfl, by decide, rfl, uw_6, wm_171⟩
theorem fp_RX6_43 : sr_FP RX6 43 6 11 := ⟨(RX6, TX6, 13), tyX6, rfl, by decide, rfl, uw_6, wm_171, tyX6_ok, nmX6, rfl, Or.inl ⟨rfl, rfl⟩⟩
theorem fl_RX6_46 : sr_FL RX6 46 6 12 := ⟨(RX6, TX6, 13), rfl, by decide, rfl, uw_6, wm_172⟩
theorem fp_RX6_46 : sr_FP RX6 46 6 12 := ⟨(RX6, TX6, 13), tyX6, rfl, by decide, rfl, uw_6, wm_172, tyX6_ok, nmX6, rfl, Or.inr (Or.inl ⟨rfl, rfl⟩)⟩
theorem fl_RX6_50 : sr_FL RX6 50 6 0 := ⟨(RX6, TX6, 13), rfl, by decide, rfl, uw_6, wm_144⟩
theorem fl_RX6_62 : sr_FL RX6 62 4 0 := ⟨(RX4, TX4, 12), rfl, by decide, rfl, uw_4, wm_63⟩
theorem fp_RX6_62 : sr_FP RX6 62 4 0 := ⟨(RX4, TX4, 12), tyX4, rfl, by decide, rfl, uw_4, wm_63, tyX4_ok, nmX4, rfl, Or.inl ⟨rfl, rfl⟩⟩
theorem fl_RX6_67 : sr_FL RX6 67 4 4 := ⟨(RX4, TX4, 12), rfl, by decide, rfl, uw_4, wm_84⟩
theorem fl_RX6_70 : sr_FL RX6 70 4 1 := ⟨(RX4, TX4, 12), rfl, by decide, rfl, uw_4, wm_71⟩
theorem fl_RX6_73 : sr_FL RX6 73 4 6 := ⟨(RX4, TX4, 12), rfl, by decide, rfl, uw_4, wm_91⟩
theorem fp_RX6_73 : sr_FP RX6 73 4 6 := ⟨(RX4, TX4, 12), tyX4, rfl, by decide, rfl, uw_4, wm_91, tyX4_ok, nmX4, rfl, Or.inl ⟨rfl, rfl⟩⟩
theorem fl_RX6_76 : sr_FL RX6 76 4 7 := ⟨(RX4, TX4, 12), rfl, by decide, rfl, uw_4, wm_97⟩
theorem fl_RX6_92 : sr_FL RX6 92 4 3 := ⟨(RX4, TX4, 12), rfl, by decide, rfl, uw_4, wm_80⟩
theorem fl_RX6_99 : sr_FL RX6 99 4 10 := ⟨(RX4, TX4, 12), rfl, by decide, rfl, uw_4, wm_106⟩
theorem fl_RX6_106 : sr_FL RX6 106 4 11 := ⟨(RX4, TX4, 12), rfl, by decide, rfl, uw_4, wm_110⟩
theorem fp_RX6_106 : sr_FP RX6 106 4 11 := ⟨(RX4, TX4, 12), tyX4, rfl, by decide, rfl, uw_4, wm_110, tyX4_ok, nmX4, rfl, Or.inl ⟨rfl, rfl⟩⟩
theorem fl_RX6_109 : sr_FL RX6 109 10 2 := ⟨(RX10, TX10, 3), rfl, by decide, rfl, uw_10, wm_43⟩
theorem fl_RX6_114 : sr_FL RX6 114 4 2 := ⟨(RX4, TX4, 12), rfl, by decide, rfl, uw_4, wm_76⟩
theorem fl_RX6_117 : sr_FL RX6 117 10 0 := ⟨(RX10, TX10, 3), rfl, by decide, rfl, uw_10, wm_39⟩
theorem fp_RX6_117 : sr_FP RX6 117 10 0 := ⟨(RX10, TX10, 3), tyX10, rfl, by decide, rfl, uw_10, wm_39, tyX10_ok, nmX10, rfl, Or.inl ⟨rfl, rfl⟩⟩
theorem fl_RX6_127 : sr_FL RX6 127 4 5 := ⟨(RX4, TX4, 12), rfl, by decide, rfl, uw_4, wm_87⟩
theorem fl_RX7_9 : sr_FL RX7 9 7 0 := ⟨(RX7, TX7, 3), rfl, by decide, rfl, uw_7, wm_255⟩
theorem fp_RX7_9 : sr_FP RX7 9 7 0 := ⟨(RX7, TX7, 3), tyX7, rfl, by decide, rfl, uw_7, wm_255, tyX7_ok, nmX7, rfl, Or.inl ⟨rfl, rfl⟩⟩
theorem fl_RX7_15 : sr_FL RX7 15 7 1 := ⟨(RX7, TX7, 3), rfl, by decide, rfl, uw_7, wm_257⟩
theorem fp_RX7_15 : sr_FP RX7 15 7 1 := ⟨(RX7, TX7, 3), tyX7, rfl, by decide, rfl, uw_7, wm_257, tyX7_ok, nmX7, rfl, Or.inl ⟨rfl, rfl⟩⟩
theorem fl_RX7_18 : sr_FL RX7 18 7 2 := ⟨(RX7, TX7, 3), rfl, by decide, rfl, uw_7, wm_259⟩
theorem fl_RX8_9 : sr_FL RX8 9 8 0 := ⟨(RX8, TX8, 3), rfl, by decide, rfl, uw_8, wm_216⟩
theorem fl_RX8_15 : sr_FL RX8 15 8 1 := ⟨(RX8, TX8, 3), rfl, by decide, rfl, uw_8, wm_217⟩
theorem fl_RX8_18 : sr_FL RX8 18 8 2 := ⟨(RX8, TX8, 3), rfl, by decide, rfl, uw_8, wm_218⟩
theorem fp_RX8_18 : sr_FP RX8 18 8 2 := ⟨(RX8, TX8, 3), tyX8, rfl, by decide, rfl, uw_8, wm_218, tyX8_ok, nmX8, rfl, Or.inl ⟨rfl, rfl⟩⟩
theorem fl_RX8_22 : sr_FL RX8 22 4 6 := ⟨(RX4, TX4, 12), rfl, by decide, rfl, uw_4, wm_90⟩
theorem fp_RX8_22 : sr_FP RX8 22 4 6 := ⟨(RX4, TX4, 12), tyX4, rfl, by decide, rfl, uw_4, wm_90, tyX4_ok, nmX4, rfl, Or.inl ⟨rfl, rfl⟩⟩
theorem fl_RX9_9 : sr_FL RX9 9 9 1 := ⟨(RX9, TX9, 2), rfl, by decide, rfl, uw_9, wm_241⟩
theorem fp_RX9_9 : sr_FP RX9 9 9 1 := ⟨(RX9, TX9, 2), tyX9, rfl, by decide, rfl, uw_9, wm_241, tyX9_ok, nmX9, rfl, Or.inl ⟨rfl, rfl⟩⟩
theorem fl_RX9_21 : sr_FL RX9 21 9 0 := ⟨(RX9, TX9, 2), rfl, by decide, rfl, uw_9, wm_240⟩
theorem fl_RX10_9 : sr_FL RX10 9 10 0 := ⟨(RX10, TX10, 3), rfl, by decide, rfl, uw_10, wm_35⟩
theorem fp_RX10_9 : sr_FP RX10 9 10 0 := ⟨(RX10, TX10, 3), tyX10, rfl, by decide, rfl, uw_10, wm_35, tyX10_ok, nmX10, rfl, Or.inl ⟨rfl, rfl⟩⟩
theorem fl_RX10_15 : sr_FL RX10 15 10 1 := ⟨(RX10, TX10, 3), rfl, by decide, rfl, uw_10, wm_41⟩
theorem fl_RX10_19 : sr_FL RX10 19 10 2 := ⟨(RX10, TX10, 3), rfl, by decide, rfl, uw_10, wm_42⟩
theorem fl_RX10_34 : sr_FL RX10 34 9 1 := ⟨(RX9, TX9, 2), rfl, by decide, rfl, uw_9, wm_243⟩
theorem fp_RX10_34 : sr_FP RX10 34 9 1 := ⟨(RX9, TX9, 2), tyX9, rfl, by decide, rfl, uw_9, wm_243, tyX9_ok, nmX9, rfl, Or.inl ⟨rfl, rfl⟩⟩
theorem fl_RX12_7 : sr_FL RX12 7 12 0 := ⟨(RX12, TX12, 32), rfl, by decide, rfl, uw_12, wm_978⟩
theorem fl_RX12_13 : sr_FL RX12 13 12 1 := ⟨(RX12, TX12, 32), rfl, by decide, rfl, uw_12, wm_979⟩
theorem fl_RX12_16 : sr_FL RX12 16 12 2 := ⟨(RX12, TX12, 32), rfl, by decide, rfl, uw_12, wm_980⟩
theorem fl_RX12_19 : sr_FL RX12 19 12 3 := ⟨(RX12, TX12, 32), rfl, by decide, rfl, uw_12, wm_981⟩
theorem fl_RX12_22 : sr_FL RX12 22 12 5 := ⟨(RX12, TX12, 32), rfl, by decide, rfl, uw_12, wm_983⟩
theorem fl_RX12_25 : sr_FL RX12 25 12 6 := ⟨(RX12, TX12, 32), rfl, by decide, rfl, uw_12, wm_984⟩
theorem fl_RX12_28 : sr_FL RX12 28 12 9 := ⟨(RX12, TX12, 32), rfl, by decide, rfl, uw_12, wm_987⟩
theorem fl_RX12_31 : sr_FL RX12 31 12 11 := ⟨(RX12, TX12, 32), rfl, by decide, rfl, uw_12, wm_989⟩
theorem fl_RX12_34 : sr_FL RX12 34 12 12 := ⟨(RX12, TX12, 32), rfl, by decide, rfl, uw_12, wm_990⟩
theorem fl_RX12_37 : sr_FL RX12 37 12 15 := ⟨(RX12, TX12, 32), rfl, by decide, rfl, uw_12, wm_993⟩
theorem fl_RX12_40 : sr_FL RX12 40 12 16 := ⟨(RX12, TX12, 32), rfl, by decide, rfl, uw_12, wm_994⟩
theorem fl_RX12_43 : sr_FL RX12 43 12 17 := ⟨(RX12, TX12, 32), rfl, by decide, rfl, uw_12, wm_995⟩
theorem fl_RX12_46 : sr_FL RX12 46 12 18 := ⟨(RX12, TX12, 32), rfl, by decide, rfl, uw_12, wm_996⟩
theorem fl_RX12_49 : sr_FL RX12 49 12 19 := ⟨(RX12, TX12, 32), rfl, by decide, rfl, uw_12, wm_997⟩
theorem fl_RX12_52 : sr_FL RX12 52 12 20 := ⟨(RX12, TX12, 32), rfl, by decide, rfl, uw_12, wm_998⟩
theorem fl_RX12_55 : sr_FL RX12 55 12 21 := ⟨(RX12, TX12, 32), rfl, by decide, rfl, uw_12, wm_999⟩
theorem fl_RX12_58 : sr_FL RX12 58 12 22 := ⟨(RX12, TX12, 32), rfl, by decide, rfl, uw_12, wm_1000⟩
theorem fl_RX12_61 : sr_FL RX12 61 12 28 := ⟨(RX12, TX12, 32), rfl, by decide, rfl, uw_12, wm_1006⟩
theorem fl_RX12_64 : sr_FL RX12 64 12 29 := ⟨(RX12, TX12, 32), rfl, by decide, rfl, uw_12, wm_1007⟩
theorem fl_RX12_67 : sr_FL RX12 67 12 31 := ⟨(RX12, TX12, 32), rfl, by decide, rfl, uw_12, wm_1009⟩
theorem fl_RX12_70 : sr_FL RX12 70 12 13 := ⟨(RX12, TX12, 32), rfl, by decide, rfl, uw_12, wm_991⟩
theorem fp_RX12_70 : sr_FP RX12 70 12 13 := ⟨(RX12, TX12, 32), tyX12, rfl, by decide, rfl, uw_12, wm_991, tyX12_ok, nmX12, rfl, Or.inl ⟨rfl, rfl⟩⟩
theorem fl_RX12_80 : sr_FL RX12 80 12 4 := ⟨(RX12, TX12, 32), rfl, by decide, rfl, uw_12, wm_982⟩
theorem fp_RX12_80 : sr_FP RX12 80 12 4 := ⟨(RX12, TX12, 32), tyX12, rfl, by decide, rfl, uw_12, wm_982, tyX12_ok, nmX12, rfl, Or.inl ⟨rfl, rfl⟩⟩
theorem fl_RX12_109 : sr_FL RX12 109 12 7 := ⟨(RX12, TX12, 32), rfl, by decide, rfl, uw_12, wm_985⟩
theorem fp_RX12_109 : sr_FP RX12 109 12 7 := ⟨(RX12, TX12, 32), tyX12, rfl, by decide, rfl, uw_12, wm_985, tyX12_ok, nmX12, rfl, Or.inl ⟨rfl, rfl⟩⟩
theorem fl_RX12_112 : sr_FL RX12 112 12 8 := ⟨(RX12, TX12, 32), rfl, by decide, rfl, uw_12, wm_986⟩
theorem fp_RX12_112 : sr_FP RX12 112 12 8 := ⟨(RX12, TX12, 32), tyX12, rfl, by decide, rfl, uw_12, wm_986, tyX12_ok, nmX12, rfl, Or.inl ⟨rfl, rfl⟩⟩
theorem fl_RX12_126 : sr_FL RX12 126 12 10 := ⟨(RX12, TX12, 32), rfl, by decide, rfl, uw_12, wm_988⟩
theorem fp_RX12_126 : sr_FP RX12 126 12 10 := ⟨(RX12, TX12, 32), tyX12, rfl, by decide, rfl, uw_12, wm_988, tyX12_ok, nmX12, rfl, Or.inl ⟨rfl, rfl⟩⟩
theorem fl_RX12_160 : sr_FL RX12 160 12 14 := ⟨(RX12, TX12, 32), rfl, by decide, rfl, uw_12, wm_992⟩
theorem fp_RX12_160 : sr_FP RX12 160 12 14 := ⟨(RX12, TX12, 32), tyX12, rfl, by decide, rfl, uw_12, wm_992, tyX12_ok, nmX12, rfl, Or.inl ⟨rfl, rfl⟩⟩
theorem fl_RX12_183 : sr_FL RX12 183 12 26 := ⟨(RX12, TX12, 32), rfl, by decide, rfl, uw_12, wm_1004⟩
theorem fp_RX12_183 : sr_FP RX12 183 12 26 := ⟨(RX12, TX12, 32), tyX12, rfl, by decide, rfl, uw_12, wm_1004, tyX12_ok, nmX12, rfl, Or.inl ⟨rfl, rfl⟩⟩
theorem fl_RX12_193 : sr_FL RX12 193 12 23 := ⟨(RX12, TX12, 32), rfl, by decide, rfl, uw_12, wm_1001⟩
theorem fp_RX12_193 : sr_FP RX12 193 12 23 := ⟨(RX12, TX12, 32), tyX12, rfl, by decide, rfl, uw_12, wm_1001, tyX12_ok, nmX12, rfl, Or.inl ⟨rfl, rfl⟩⟩
theorem fl_RX12_196 : sr_FL RX12 196 12 24 := ⟨(RX12, TX12, 32), rfl, by decide, rfl, uw_12, wm_1002⟩
theorem fp_RX12_196 : sr_FP RX12 196 12 24 := ⟨(RX12, TX12, 32), tyX12, rfl, by decide, rfl, uw_12, wm_1002, tyX12_ok, nmX12, rfl, Or.inl ⟨rfl, rfl⟩⟩
theorem fl_RX12_205 : sr_FL RX12 205 12 25 := ⟨(RX12, TX12, 32), rfl, by decide, rfl, uw_12, wm_1003⟩
theorem fp_RX12_205 : sr_FP RX12 205 12 25 := ⟨(RX12, TX12, 32), tyX12, rfl, by decide, rfl, uw_12, wm_1003, tyX12_ok, nmX12, rfl, Or.inl ⟨rfl, rfl⟩⟩
theorem fl_RX12_296 : sr_FL RX12 296 12 27 := ⟨(RX12, TX12, 32), rfl, by decide, rfl, uw_12, wm_1005⟩
theorem fp_RX12_296 : sr_FP RX12 296 12 27 := ⟨(RX12, TX12, 32), tyX12, rfl, by decide, rfl, uw_12, wm_1005, tyX12_ok, nmX12, rfl, Or.inl ⟨rfl, rfl⟩⟩
theorem fl_RX12_330 : sr_FL RX12 330 12 30 := ⟨(RX12, TX12, 32), rfl, by decide, rfl, uw_12, wm_1008⟩
theorem fp_RX12_330 : sr_FP RX12 330 12 30 := ⟨(RX12, TX12, 32), tyX12, rfl, by decide, rfl, uw_12, wm_1008, tyX12_ok, nmX12, rfl, Or.inl ⟨rfl, rfl⟩⟩
theorem fn_RX11_318 : sr_FN RX11 318 7 0 := ⟨(RX7, TX7, 3), "SmokeRings", rfl, by decide, rfl, uw_7, rfl⟩
theorem ms_RX11_102 : sr_MS RX11 102 yX11_within cX11_within 3 (some .boolean) 3 := ⟨wm_439, wm_440, wm_1, wm_441, ⟨by decide +kernel, by decide +kernel⟩, by decide +kernel, by decide⟩
theorem mv_RX11_106 : sr_MV RX11 106 yX9_append cX9_append 2 (some .boolean) 1 9 := ⟨⟨(RX9, TX9, 2), rfl, rfl⟩, wm_442, wm_443, wm_444, wm_8, wm_445, ⟨by decide +kernel, by decide +kernel⟩, by decide +kernel, by decide⟩
theorem mv_RX11_110 : sr_MV RX11 110 yX11_reread cX11_reread 2 none 1 11 := ⟨⟨(RX11, TX11, 13), rfl, rfl⟩, wm_446, wm_448, pv_X11_reread, wm_1, wm_449, ⟨by decide +kernel, by decide +kernel⟩, by decide +kernel, by decide⟩
theorem mv_RX11_119 : sr_MV RX11 119 yX10_isOpen cX10_isOpen 2 (some .boolean) 1 10 := ⟨⟨(RX10, TX10, 3), rfl, rfl⟩, wm_514, wm_474, wm_475, wm_2, wm_476, ⟨by decide +kernel, by decide +kernel⟩, by decide +kernel, by decide⟩
theorem mv_RX11_122 : sr_MV RX11 122 yX11_isThing cX11_isThing 2 (some .boolean) 1 11 := ⟨⟨(RX11, TX11, 13), rfl, rfl⟩, wm_519, wm_521, pv_X11_isThing, wm_1, wm_522, ⟨by decide +kernel, by decide +kernel⟩, by decide +kernel, by decide⟩
theorem ms_RX11_140 : sr_MS RX11 140 yX11_mayBlow cX11_mayBlow 5 (some .boolean) 5 := ⟨wm_535, wm_536, wm_1, wm_537, ⟨by decide +kernel, by decide +kernel⟩, by decide +kernel, by decide⟩
theorem mv_RX11_147 : sr_MV RX11 147 yX4_addRing cX4_addRing 6 none 5 4 := ⟨⟨(RX4, TX4, 12), rfl, rfl⟩, wm_538, wm_539, wm_540, wm_3, wm_541, ⟨by decide +kernel, by decide +kernel⟩, by decide +kernel, by decide⟩
theorem mv_RX11_151 : sr_MV RX11 151 yX11_isRing cX11_isRing 2 (some .boolean) 1 11 := ⟨⟨(RX11, TX11, 13), rfl, rfl⟩, wm_546, wm_548, pv_X11_isRing, wm_1, wm_549, ⟨by decide +kernel, by decide +kernel⟩, by decide +kernel, by decide⟩
theorem mv_RX11_169 : sr_MV RX11 169 yX7_isLost cX7_isLost 1 (some .boolean) 0 7 := ⟨⟨(RX7, TX7, 3), rfl, rfl⟩, wm_558, wm_559, wm_560, wm_10, wm_561, ⟨by decide +kernel, by decide +kernel⟩, by decide +kernel, by decide⟩
theorem mv_RX11_173 : sr_MV RX11 173 yX11_found cX11_found 2 (some .int) 1 11 := ⟨⟨(RX11, TX11, 13), rfl, rfl⟩, wm_562, wm_564, pv_X11_found, wm_1, wm_565, ⟨by decide +kernel, by decide +kernel⟩, by decide +kernel, by decide⟩
theorem mv_RX11_178 : sr_MV RX11 178 yX7_item cX7_item 2 (some .int) 1 7 := ⟨⟨(RX7, TX7, 3), rfl, rfl⟩, wm_566, wm_567, wm_568, wm_10, wm_569, ⟨by decide +kernel, by decide +kernel⟩, by decide +kernel, by decide⟩
theorem mv_RX11_181 : sr_MV RX11 181 yX11_playTold cX11_playTold 2 none 0 11 := ⟨⟨(RX11, TX11, 13), rfl, rfl⟩, wm_578, wm_580, pv_X11_playTold, wm_1, wm_581, ⟨by decide +kernel, by decide +kernel⟩, by decide +kernel, by decide⟩
theorem mv_RX11_184 : sr_MV RX11 184 yX1_look cX1_look 5 (some .int) 3 1 := ⟨⟨(RX1, TX1, 1), rfl, rfl⟩, wm_623, wm_624, wm_625, wm_6, wm_626, ⟨by decide +kernel, by decide +kernel⟩, by decide +kernel, by decide⟩
theorem mv_RX11_197 : sr_MV RX11 197 yX6_wedBits cX6_wedBits 5 (some .int) 2 6 := ⟨⟨(RX6, TX6, 13), rfl, rfl⟩, wm_635, wm_636, wm_637, wm_5, wm_638, ⟨by decide +kernel, by decide +kernel⟩, by decide +kernel, by decide⟩
theorem mv_RX11_201 : sr_MV RX11 201 yX6_upkeepOf cX6_upkeepOf 5 (some .int) 2 6 := ⟨⟨(RX6, TX6, 13), rfl, rfl⟩, wm_639, wm_640, wm_641, wm_5, wm_642, ⟨by decide +kernel, by decide +kernel⟩, by decide +kernel, by decide⟩
theorem ms_RX11_213 : sr_MS RX11 213 yJ6_bitCount_0f7a4 cJ6_bitCount_0f7a4 1 (some .int) 1 := ⟨wm_659, wm_660, wm_16, wm_661, ⟨by decide +kernel, by decide +kernel⟩, by decide +kernel, by decide⟩
theorem mv_RX11_221 : sr_MV RX11 221 yX5_leastBreath cX5_leastBreath 4 (some .int) 2 5 := ⟨⟨(RX5, TX5, 10), rfl, rfl⟩, wm_673, wm_674, wm_675, wm_11, wm_676, ⟨by decide +kernel, by decide +kernel⟩, by decide +kernel, by decide⟩
theorem mv_RX11_225 : sr_MV RX11 225 yX5_seekAim cX5_seekAim 5 none 1 5 := ⟨⟨(RX5, TX5, 10), rfl, rfl⟩, wm_694, wm_695, wm_696, wm_11, wm_697, ⟨by decide +kernel, by decide +kernel⟩, by decide +kernel, by decide⟩
theorem mv_RX11_237 : sr_MV RX11 237 yX5_safeCell cX5_safeCell 3 (some .int) 1 5 := ⟨⟨(RX5, TX5, 10), rfl, rfl⟩, wm_702, wm_703, wm_704, wm_11, wm_705, ⟨by decide +kernel, by decide +kernel⟩, by decide +kernel, by decide⟩
theorem mv_RX11_240 : sr_MV RX11 240 yX5_seekHush cX5_seekHush 4 none 1 5 := ⟨⟨(RX5, TX5, 10), rfl, rfl⟩, wm_715, wm_716, wm_717, wm_11, wm_718, ⟨by decide +kernel, by decide +kernel⟩, by decide +kernel, by decide⟩
theorem mv_RX11_247 : sr_MV RX11 247 yX2_pick cX2_pick 2 (some .int) 1 2 := ⟨⟨(RX2, TX2, 3), rfl, rfl⟩, wm_723, wm_724, wm_725, wm_12, wm_726, ⟨by decide +kernel, by decide +kernel⟩, by decide +kernel, by decide⟩
theorem mv_RX11_252 : sr_MV RX11 252 yX5_seekCalm cX5_seekCalm 4 none 0 5 := ⟨⟨(RX5, TX5, 10), rfl, rfl⟩, wm_731, wm_732, wm_733, wm_11, wm_734, ⟨by decide +kernel, by decide +kernel⟩, by decide +kernel, by decide⟩
theorem mv_RX11_261 : sr_MV RX11 261 yX5_seekFree cX5_seekFree 8 none 3 5 := ⟨⟨(RX5, TX5, 10), rfl, rfl⟩, wm_739, wm_740, wm_741, wm_11, wm_742, ⟨by decide +kernel, by decide +kernel⟩, by decide +kernel, by decide⟩
theorem mv_RX11_265 : sr_MV RX11 265 yX8_note cX8_note 3 (some .boolean) 2 8 := ⟨⟨(RX8, TX8, 3), rfl, rfl⟩, wm_750, wm_751, wm_752, wm_7, wm_753, ⟨by decide +kernel, by decide +kernel⟩, by decide +kernel, by decide⟩
theorem mv_RX11_270 : sr_MV RX11 270 yX3_neverBits cX3_neverBits 3 (some .int) 0 3 := ⟨⟨(RX3, TX3, 7), rfl, rfl⟩, wm_762, wm_763, wm_764, wm_13, wm_765, ⟨by decide +kernel, by decide +kernel⟩, by decide +kernel, by decide⟩
theorem mv_RX11_274 : sr_MV RX11 274 yX3_seekWhence cX3_seekWhence 3 none 1 3 := ⟨⟨(RX3, TX3, 7), rfl, rfl⟩, wm_784, wm_785, wm_786, wm_13, wm_787, ⟨by decide +kernel, by decide +kernel⟩, by decide +kernel, by decide⟩
theorem mv_RX11_277 : sr_MV RX11 277 yX3_pickWhence cX3_pickWhence 4 (some .int) 1 3 := ⟨⟨(RX3, TX3, 7), rfl, rfl⟩, wm_788, wm_789, wm_790, wm_13, wm_791, ⟨by decide +kernel, by decide +kernel⟩, by decide +kernel, by decide⟩
theorem mv_RX11_280 : sr_MV RX11 280 yX3_paceBits cX3_paceBits 3 (some .int) 0 3 := ⟨⟨(RX3, TX3, 7), rfl, rfl⟩, wm_802, wm_803, wm_804, wm_13, wm_805, ⟨by decide +kernel, by decide +kernel⟩, by decide +kernel, by decide⟩
theorem mv_RX11_283 : sr_MV RX11 283 yX3_bestAsk cX3_bestAsk 5 (some .int) 0 3 := ⟨⟨(RX3, TX3, 7), rfl, rfl⟩, wm_810, wm_811, wm_812, wm_13, wm_813, ⟨by decide +kernel, by decide +kernel⟩, by decide +kernel, by decide⟩
theorem mv_RX11_288 : sr_MV RX11 288 yX0_weigh cX0_weigh 7 none 2 0 := ⟨⟨(RX0, TX0, 10), rfl, rfl⟩, wm_830, wm_831, wm_832, wm_14, wm_833, ⟨by decide +kernel, by decide +kernel⟩, by decide +kernel, by decide⟩
theorem mv_RX11_292 : sr_MV RX11 292 yX0_above cX0_above 5 (some .long) 2 0 := ⟨⟨(RX0, TX0, 10), rfl, rfl⟩, wm_852, wm_853, wm_854, wm_14, wm_855, ⟨by decide +kernel, by decide +kernel⟩, by decide +kernel, by decide⟩
theorem mv_RX11_296 : sr_MV RX11 296 yX0_below cX0_below 3 (some .long) 2 0 := ⟨⟨(RX0, TX0, 10), rfl, rfl⟩, wm_864, wm_865, wm_866, wm_14, wm_867, ⟨by decide +kernel, by decide +kernel⟩, by decide +kernel, by decide⟩
theorem mv_RX11_299 : sr_MV RX11 299 yX0_playLots cX0_playLots 7 none 2 0 := ⟨⟨(RX0, TX0, 10), rfl, rfl⟩, wm_872, wm_873, wm_874, wm_14, wm_875, ⟨by decide +kernel, by decide +kernel⟩, by decide +kernel, by decide⟩
theorem mv_RX11_308 : sr_MV RX11 308 yX7_renew cX7_renew 3 none 2 7 := ⟨⟨(RX7, TX7, 3), rfl, rfl⟩, wm_890, wm_891, wm_892, wm_10, wm_893, ⟨by decide +kernel, by decide +kernel⟩, by decide +kernel, by decide⟩
theorem mv_RX11_311 : sr_MV RX11 311 yX7_trouble cX7_trouble 3 (some .int) 2 7 := ⟨⟨(RX7, TX7, 3), rfl, rfl⟩, wm_905, wm_906, wm_907, wm_10, wm_908, ⟨by decide +kernel, by decide +kernel⟩, by decide +kernel, by decide⟩
theorem mv_RX11_314 : sr_MV RX11 314 yX7_put cX7_put 3 none 2 7 := ⟨⟨(RX7, TX7, 3), rfl, rfl⟩, wm_910, wm_911, wm_912, wm_10, wm_913, ⟨by decide +kernel, by decide +kernel⟩, by decide +kernel, by decide⟩
theorem mv_RX11_321 : sr_MV RX11 321 yX7_hasRun cX7_hasRun 3 (some .boolean) 2 7 := ⟨⟨(RX7, TX7, 3), rfl, rfl⟩, wm_923, wm_924, wm_925, wm_10, wm_926, ⟨by decide +kernel, by decide +kernel⟩, by decide +kernel, by decide⟩
theorem ms_RX11_333 : sr_MS RX11 333 yJ9_min_7cf53 cJ9_min_7cf53 2 (some .int) 2 := ⟨wm_932, wm_489, wm_9, wm_490, ⟨by decide +kernel, by decide +kernel⟩, by decide +kernel, by decide⟩
theorem mv_RX11_343 : sr_MV RX11 343 yX11_count cX11_count 2 (some .int) 1 11 := ⟨⟨(RX11, TX11, 13), rfl, rfl⟩, wm_942, wm_934, wm_935, wm_1, wm_936, ⟨by decide +kernel, by decide +kernel⟩, by decide +kernel, by decide⟩
theorem ms_RX11_346 : sr_MS RX11 346 yX11_mixed cX11_mixed 4 (some .long) 2 := ⟨wm_943, wm_944, wm_1, wm_945, ⟨by decide +kernel, by decide +kernel⟩, by decide +kernel, by decide⟩
theorem mv_RX11_350 : sr_MV RX11 350 yX11_cell cX11_cell 2 (some .int) 1 11 := ⟨⟨(RX11, TX11, 13), rfl, rfl⟩, wm_947, wm_511, wm_512, wm_1, wm_513, ⟨by decide +kernel, by decide +kernel⟩, by decide +kernel, by decide⟩
theorem mv_RX11_353 : sr_MV RX11 353 yX11_digestRing cX11_digestRing 8 (some .long) 2 11 := ⟨⟨(RX11, TX11, 13), rfl, rfl⟩, wm_948, wm_950, pv_X11_digestRing, wm_1, wm_951, ⟨by decide +kernel, by decide +kernel⟩, by decide +kernel, by decide⟩
theorem mv_RX11_357 : sr_MV RX11 357 yX11_digestThing cX11_digestThing 7 (some .long) 2 11 := ⟨⟨(RX11, TX11, 13), rfl, rfl⟩, wm_956, wm_958, pv_X11_digestThing, wm_1, wm_959, ⟨by decide +kernel, by decide +kernel⟩, by decide +kernel, by decide⟩
theorem mv_RX11_360 : sr_MV RX11 360 yX11_digestWhom cX11_digestWhom 6 (some .long) 2 11 := ⟨⟨(RX11, TX11, 13), rfl, rfl⟩, wm_961, wm_963, pv_X11_digestWhom, wm_1, wm_964, ⟨by decide +kernel, by decide +kernel⟩, by decide +kernel, by decide⟩
theorem mv_RX11_363 : sr_MV RX11 363 yX11_digestRest cX11_digestRest 5 (some .long) 1 11 := ⟨⟨(RX11, TX11, 13), rfl, rfl⟩, wm_965, wm_967, pv_X11_digestRest, wm_1, wm_968, ⟨by decide +kernel, by decide +kernel⟩, by decide +kernel, by decide⟩
theorem mv_RX11_367 : sr_MV RX11 367 yX11_ring cX11_ring 3 (some .int) 2 11 := ⟨⟨(RX11, TX11, 13), rfl, rfl⟩, wm_952, wm_543, wm_544, wm_1, wm_545, ⟨by decide +kernel, by decide +kernel⟩, by decide +kernel, by decide⟩
theorem mv_RX11_375 : sr_MV RX11 375 yX11_thing cX11_thing 3 (some .int) 2 11 := ⟨⟨(RX11, TX11, 13), rfl, rfl⟩, wm_960, wm_516, wm_517, wm_1, wm_518, ⟨by decide +kernel, by decide +kernel⟩, by decide +kernel, by decide⟩
theorem mv_RX11_378 : sr_MV RX11 378 yX11_missed cX11_missed 3 (some .int) 0 11 := ⟨⟨(RX11, TX11, 13), rfl, rfl⟩, wm_969, wm_652, wm_653, wm_1, wm_654, ⟨by decide +kernel, by decide +kernel⟩, by decide +kernel, by decide⟩
theorem mv_RX11_381 : sr_MV RX11 381 yX11_richest cX11_richest 5 (some .int) 0 11 := ⟨⟨(RX11, TX11, 13), rfl, rfl⟩, wm_970, wm_656, wm_657, wm_1, wm_658, ⟨by decide +kernel, by decide +kernel⟩, by decide +kernel, by decide⟩
theorem mv_RX11_384 : sr_MV RX11 384 yX11_lonely cX11_lonely 4 (some .int) 0 11 := ⟨⟨(RX11, TX11, 13), rfl, rfl⟩, wm_971, wm_666, wm_667, wm_1, wm_668, ⟨by decide +kernel, by decide +kernel⟩, by decide +kernel, by decide⟩
theorem mv_RX11_389 : sr_MV RX11 389 yX10_reread cX10_reread 5 (some .int) 1 10 := ⟨⟨(RX10, TX10, 3), rfl, rfl⟩, wm_450, wm_451, wm_452, wm_2, wm_453, ⟨by decide +kernel, by decide +kernel⟩, by decide +kernel, by decide⟩
theorem mv_RX11_392 : sr_MV RX11 392 yX4_rereadThings cX4_rereadThings 6 (some .int) 1 4 := ⟨⟨(RX4, TX4, 12), rfl, rfl⟩, wm_477, wm_478, wm_479, wm_3, wm_480, ⟨by decide +kernel, by decide +kernel⟩, by decide +kernel, by decide⟩
theorem mv_RX11_395 : sr_MV RX11 395 yX4_rereadWind cX4_rereadWind 4 (some .int) 1 4 := ⟨⟨(RX4, TX4, 12), rfl, rfl⟩, wm_491, wm_492, wm_493, wm_3, wm_494, ⟨by decide +kernel, by decide +kernel⟩, by decide +kernel, by decide⟩
theorem mv_RX11_398 : sr_MV RX11 398 yX6_begin cX6_begin 3 none 1 6 := ⟨⟨(RX6, TX6, 13), rfl, rfl⟩, wm_582, wm_583, wm_584, wm_5, wm_585, ⟨by decide +kernel, by decide +kernel⟩, by decide +kernel, by decide⟩
theorem mv_RX11_402 : sr_MV RX11 402 yX6_takeStep cX6_takeStep 9 none 2 6 := ⟨⟨(RX6, TX6, 13), rfl, rfl⟩, wm_586, wm_587, wm_588, wm_5, wm_589, ⟨by decide +kernel, by decide +kernel⟩, by decide +kernel, by decide⟩
theorem mv_RX11_406 : sr_MV RX11 406 yX1_keep cX1_keep 5 none 2 1 := ⟨⟨(RX1, TX1, 1), rfl, rfl⟩, wm_619, wm_620, wm_621, wm_6, wm_622, ⟨by decide +kernel, by decide +kernel⟩, by decide +kernel, by decide⟩
theorem mv_RX0_47 : sr_MV RX0 47 yX0_findWindy cX0_findWindy 4 none 1 0 := ⟨⟨(RX0, TX0, 10), rfl, rfl⟩, wm_834, wm_836, pv_X0_findWindy, wm_14, wm_837, ⟨by decide +kernel, by decide +kernel⟩, by decide +kernel, by decide⟩
theorem ms_RX0_51 : sr_MS RX0 51 yJ7_fill_d0a16 cJ7_fill_d0a16 5 none 2 := ⟨wm_839, wm_840, wm_4, wm_841, ⟨by decide +kernel, by decide +kernel⟩, by decide +kernel, by decide⟩
theorem mv_RX0_57 : sr_MV RX0 57 yX4_becomes cX4_becomes 2 none 1 4 := ⟨⟨(RX4, TX4, 12), rfl, rfl⟩, wm_842, wm_678, wm_679, wm_3, wm_680, ⟨by decide +kernel, by decide +kernel⟩, by decide +kernel, by decide⟩
theorem ms_RX0_63 : sr_MS RX0 63 yJ6_bitCount_0f7a4 cJ6_bitCount_0f7a4 1 (some .int) 1 := ⟨wm_843, wm_660, wm_16, wm_661, ⟨by decide +kernel, by decide +kernel⟩, by decide +kernel, by decide⟩
theorem ms_RX0_69 : sr_MS RX0 69 yX0_power cX0_power 6 (some .long) 2 := ⟨wm_844, wm_845, wm_14, wm_846, ⟨by decide +kernel, by decide +kernel⟩, by decide +kernel, by decide⟩
theorem mv_RX0_73 : sr_MV RX0 73 yX0_weighCalms cX0_weighCalms 6 none 2 0 := ⟨⟨(RX0, TX0, 10), rfl, rfl⟩, wm_847, wm_849, pv_X0_weighCalms, wm_14, wm_850, ⟨by decide +kernel, by decide +kernel⟩, by decide +kernel, by decide⟩
theorem ms_RX0_83 : sr_MS RX0 83 yJ9_min_7cf53 cJ9_min_7cf53 2 (some .int) 2 := ⟨wm_838, wm_489, wm_9, wm_490, ⟨by decide +kernel, by decide +kernel⟩, by decide +kernel, by decide⟩
theorem mv_RX0_92 : sr_MV RX0 92 yX6_playAll cX6_playAll 3 none 1 6 := ⟨⟨(RX6, TX6, 13), rfl, rfl⟩, wm_851, wm_685, wm_686, wm_5, wm_687, ⟨by decide +kernel, by decide +kernel⟩, by decide +kernel, by decide⟩
theorem mv_RX0_103 : sr_MV RX0 103 yX0_weightOf cX0_weightOf 4 (some .long) 2 0 := ⟨⟨(RX0, TX0, 10), rfl, rfl⟩, wm_856, wm_858, pv_X0_weightOf, wm_14, wm_859, ⟨by decide +kernel, by decide +kernel⟩, by decide +kernel, by decide⟩
theorem mv_RX0_107 : sr_MV RX0 107 yX0_halvings cX0_halvings 4 (some .int) 1 0 := ⟨⟨(RX0, TX0, 10), rfl, rfl⟩, wm_860, wm_862, pv_X0_halvings, wm_14, wm_863, ⟨by decide +kernel, by decide +kernel⟩, by decide +kernel, by decide⟩
theorem mv_RX0_116 : sr_MV RX0 116 yX0_lot cX0_lot 2 (some .int) 1 0 := ⟨⟨(RX0, TX0, 10), rfl, rfl⟩, wm_876, wm_878, pv_X0_lot, wm_14, wm_879, ⟨by decide +kernel, by decide +kernel⟩, by decide +kernel, by decide⟩
theorem mv_RX0_119 : sr_MV RX0 119 yX4_addRing cX4_addRing 6 none 5 4 := ⟨⟨(RX4, TX4, 12), rfl, rfl⟩, wm_881, wm_539, wm_540, wm_3, wm_541, ⟨by decide +kernel, by decide +kernel⟩, by decide +kernel, by decide⟩
theorem mv_RX0_126 : sr_MV RX0 126 yX6_brokenRings cX6_brokenRings 4 (some .int) 1 6 := ⟨⟨(RX6, TX6, 13), rfl, rfl⟩, wm_882, wm_883, wm_884, wm_5, wm_885, ⟨by decide +kernel, by decide +kernel⟩, by decide +kernel, by decide⟩
theorem mv_RX3_44 : sr_MV RX3 44 yX6_playAll cX6_playAll 3 none 1 6 := ⟨⟨(RX6, TX6, 13), rfl, rfl⟩, wm_771, wm_685, wm_686, wm_5, wm_687, ⟨by decide +kernel, by decide +kernel⟩, by decide +kernel, by decide⟩
theorem mv_RX3_50 : sr_MV RX3 50 yX8_allSo cX8_allSo 4 (some .boolean) 2 8 := ⟨⟨(RX8, TX8, 3), rfl, rfl⟩, wm_772, wm_773, wm_774, wm_7, wm_775, ⟨by decide +kernel, by decide +kernel⟩, by decide +kernel, by decide⟩
theorem mv_RX3_54 : sr_MV RX3 54 yX4_becomes cX4_becomes 2 none 1 4 := ⟨⟨(RX4, TX4, 12), rfl, rfl⟩, wm_766, wm_678, wm_679, wm_3, wm_680, ⟨by decide +kernel, by decide +kernel⟩, by decide +kernel, by decide⟩
theorem mv_RX3_65 : sr_MV RX3 65 yX3_comesOut cX3_comesOut 1 (some .boolean) 0 3 := ⟨⟨(RX3, TX3, 7), rfl, rfl⟩, wm_767, wm_769, pv_X3_comesOut, wm_13, wm_770, ⟨by decide +kernel, by decide +kernel⟩, by decide +kernel, by decide⟩
theorem ms_RX3_77 : sr_MS RX3 77 yJ13_bitCount_95d88 cJ13_bitCount_95d88 2 (some .int) 1 := ⟨wm_792, wm_793, wm_18, wm_794, ⟨by decide +kernel, by decide +kernel⟩, by decide +kernel, by decide⟩
theorem ms_RX3_86 : sr_MS RX3 86 yJ7_fill_53178 cJ7_fill_53178 4 none 2 := ⟨wm_814, wm_60, wm_4, wm_61, ⟨by decide +kernel, by decide +kernel⟩, by decide +kernel, by decide⟩
theorem mv_RX3_92 : sr_MV RX3 92 yX3_tallyOutcomes cX3_tallyOutcomes 3 none 0 3 := ⟨⟨(RX3, TX3, 7), rfl, rfl⟩, wm_815, wm_817, pv_X3_tallyOutcomes, wm_13, wm_818, ⟨by decide +kernel, by decide +kernel⟩, by decide +kernel, by decide⟩
theorem mv_RX3_98 : sr_MV RX3 98 yX3_greatestTally cX3_greatestTally 4 (some .int) 1 3 := ⟨⟨(RX3, TX3, 7), rfl, rfl⟩, wm_820, wm_822, pv_X3_greatestTally, wm_13, wm_823, ⟨by decide +kernel, by decide +kernel⟩, by decide +kernel, by decide⟩
theorem mv_RX3_102 : sr_MV RX3 102 yX6_outcome cX6_outcome 2 (some .int) 1 6 := ⟨⟨(RX6, TX6, 13), rfl, rfl⟩, wm_819, wm_777, wm_778, wm_5, wm_779, ⟨by decide +kernel, by decide +kernel⟩, by decide +kernel, by decide⟩
theorem ms_RX3_105 : sr_MS RX3 105 yJ9_max_7cf53 cJ9_max_7cf53 2 (some .int) 2 := ⟨wm_824, wm_238, wm_9, wm_239, ⟨by decide +kernel, by decide +kernel⟩, by decide +kernel, by decide⟩
theorem ms_RX4_49 : sr_MS RX4 49 yJ7_fill_53178 cJ7_fill_53178 4 none 2 := ⟨wm_59, wm_60, wm_4, wm_61, ⟨by decide +kernel, by decide +kernel⟩, by decide +kernel, by decide⟩
theorem ms_RX4_61 : sr_MS RX4 61 yX4_thingsFault cX4_thingsFault 2 (some .int) 1 := ⟨wm_481, wm_482, wm_3, wm_483, ⟨by decide +kernel, by decide +kernel⟩, by decide +kernel, by decide⟩
theorem ms_RX4_70 : sr_MS RX4 70 yJ9_min_7cf53 cJ9_min_7cf53 2 (some .int) 2 := ⟨wm_488, wm_489, wm_9, wm_490, ⟨by decide +kernel, by decide +kernel⟩, by decide +kernel, by decide⟩
theorem mv_RX4_76 : sr_MV RX4 76 yX9_sign cX9_sign 2 (some .int) 1 9 := ⟨⟨(RX9, TX9, 2), rfl, rfl⟩, wm_484, wm_458, wm_459, wm_8, wm_460, ⟨by decide +kernel, by decide +kernel⟩, by decide +kernel, by decide⟩
theorem ms_RX4_80 : sr_MS RX4 80 yX4_fitsThing cX4_fitsThing 2 (some .boolean) 2 := ⟨wm_485, wm_486, wm_3, wm_487, ⟨by decide +kernel, by decide +kernel⟩, by decide +kernel, by decide⟩
theorem ms_RX4_84 : sr_MS RX4 84 yX4_windOf cX4_windOf 1 (some .int) 1 := ⟨wm_495, wm_496, wm_3, wm_497, ⟨by decide +kernel, by decide +kernel⟩, by decide +kernel, by decide⟩
theorem mv_RX5_49 : sr_MV RX5 49 yX4_becomes cX4_becomes 2 none 1 4 := ⟨⟨(RX4, TX4, 12), rfl, rfl⟩, wm_677, wm_678, wm_679, wm_3, wm_680, ⟨by decide +kernel, by decide +kernel⟩, by decide +kernel, by decide⟩
theorem mv_RX5_59 : sr_MV RX5 59 yX6_playAll cX6_playAll 3 none 1 6 := ⟨⟨(RX6, TX6, 13), rfl, rfl⟩, wm_684, wm_685, wm_686, wm_5, wm_687, ⟨by decide +kernel, by decide +kernel⟩, by decide +kernel, by decide⟩
theorem mv_RX5_84 : sr_MV RX5 84 yX10_isOpen cX10_isOpen 2 (some .boolean) 1 10 := ⟨⟨(RX10, TX10, 3), rfl, rfl⟩, wm_706, wm_474, wm_475, wm_2, wm_476, ⟨by decide +kernel, by decide +kernel⟩, by decide +kernel, by decide⟩
theorem mv_RX5_88 : sr_MV RX5 88 yX5_binds cX5_binds 2 (some .boolean) 1 5 := ⟨⟨(RX5, TX5, 10), rfl, rfl⟩, wm_707, wm_709, pv_X5_binds, wm_11, wm_710, ⟨by decide +kernel, by decide +kernel⟩, by decide +kernel, by decide⟩
theorem mv_RX5_91 : sr_MV RX5 91 yX2_become cX2_become 4 none 3 2 := ⟨⟨(RX2, TX2, 3), rfl, rfl⟩, wm_719, wm_720, wm_721, wm_12, wm_722, ⟨by decide +kernel, by decide +kernel⟩, by decide +kernel, by decide⟩
theorem mv_RX5_104 : sr_MV RX5 104 yX6_wedBits cX6_wedBits 5 (some .int) 2 6 := ⟨⟨(RX6, TX6, 13), rfl, rfl⟩, wm_743, wm_636, wm_637, wm_5, wm_638, ⟨by decide +kernel, by decide +kernel⟩, by decide +kernel, by decide⟩
theorem mv_RX5_108 : sr_MV RX5 108 yX6_upkeepOf cX6_upkeepOf 5 (some .int) 2 6 := ⟨⟨(RX6, TX6, 13), rfl, rfl⟩, wm_744, wm_640, wm_641, wm_5, wm_642, ⟨by decide +kernel, by decide +kernel⟩, by decide +kernel, by decide⟩
theorem mv_RX5_114 : sr_MV RX5 114 yX4_upkeep cX4_upkeep 2 (some .int) 1 4 := ⟨⟨(RX4, TX4, 12), rfl, rfl⟩, wm_745, wm_644, wm_645, wm_3, wm_646, ⟨by decide +kernel, by decide +kernel⟩, by decide +kernel, by decide⟩
theorem mv_RX6_54 : sr_MV RX6 54 yX6_begin cX6_begin 3 none 1 6 := ⟨⟨(RX6, TX6, 13), rfl, rfl⟩, wm_688, wm_583, wm_584, wm_5, wm_585, ⟨by decide +kernel, by decide +kernel⟩, by decide +kernel, by decide⟩
theorem mv_RX6_58 : sr_MV RX6 58 yX6_takeStep cX6_takeStep 9 none 2 6 := ⟨⟨(RX6, TX6, 13), rfl, rfl⟩, wm_689, wm_587, wm_588, wm_5, wm_589, ⟨by decide +kernel, by decide +kernel⟩, by decide +kernel, by decide⟩
theorem mv_RX6_79 : sr_MV RX6 79 yX6_move cX6_move 5 none 3 6 := ⟨⟨(RX6, TX6, 13), rfl, rfl⟩, wm_590, wm_592, pv_X6_move, wm_5, wm_593, ⟨by decide +kernel, by decide +kernel⟩, by decide +kernel, by decide⟩
theorem mv_RX6_83 : sr_MV RX6 83 yX6_start cX6_start 3 none 2 6 := ⟨⟨(RX6, TX6, 13), rfl, rfl⟩, wm_602, wm_604, pv_X6_start, wm_5, wm_605, ⟨by decide +kernel, by decide +kernel⟩, by decide +kernel, by decide⟩
theorem mv_RX6_86 : sr_MV RX6 86 yX6_meet cX6_meet 6 none 2 6 := ⟨⟨(RX6, TX6, 13), rfl, rfl⟩, wm_607, wm_609, pv_X6_meet, wm_5, wm_610, ⟨by decide +kernel, by decide +kernel⟩, by decide +kernel, by decide⟩
theorem mv_RX6_89 : sr_MV RX6 89 yX6_fall cX6_fall 5 none 2 6 := ⟨⟨(RX6, TX6, 13), rfl, rfl⟩, wm_611, wm_613, pv_X6_fall, wm_5, wm_614, ⟨by decide +kernel, by decide +kernel⟩, by decide +kernel, by decide⟩
theorem mv_RX6_95 : sr_MV RX6 95 yX6_shift cX6_shift 5 (some .boolean) 2 6 := ⟨⟨(RX6, TX6, 13), rfl, rfl⟩, wm_594, wm_596, pv_X6_shift, wm_5, wm_597, ⟨by decide +kernel, by decide +kernel⟩, by decide +kernel, by decide⟩
theorem mv_RX6_102 : sr_MV RX6 102 yX6_settle cX6_settle 3 none 2 6 := ⟨⟨(RX6, TX6, 13), rfl, rfl⟩, wm_598, wm_600, pv_X6_settle, wm_5, wm_601, ⟨by decide +kernel, by decide +kernel⟩, by decide +kernel, by decide⟩
theorem mv_RX6_120 : sr_MV RX6 120 yX10_isOpen cX10_isOpen 2 (some .boolean) 1 10 := ⟨⟨(RX10, TX10, 3), rfl, rfl⟩, wm_606, wm_474, wm_475, wm_2, wm_476, ⟨by decide +kernel, by decide +kernel⟩, by decide +kernel, by decide⟩
theorem mv_RX6_124 : sr_MV RX6 124 yX4_fits cX4_fits 4 (some .boolean) 2 4 := ⟨⟨(RX4, TX4, 12), rfl, rfl⟩, wm_615, wm_616, wm_617, wm_3, wm_618, ⟨by decide +kernel, by decide +kernel⟩, by decide +kernel, by decide⟩
theorem mv_RX6_130 : sr_MV RX6 130 yX4_upkeep cX4_upkeep 2 (some .int) 1 4 := ⟨⟨(RX4, TX4, 12), rfl, rfl⟩, wm_643, wm_644, wm_645, wm_3, wm_646, ⟨by decide +kernel, by decide +kernel⟩, by decide +kernel, by decide⟩
theorem ms_RX7_22 : sr_MS RX7 22 yJ9_min_7cf53 cJ9_min_7cf53 2 (some .int) 2 := ⟨wm_894, wm_489, wm_9, wm_490, ⟨by decide +kernel, by decide +kernel⟩, by decide +kernel, by decide⟩
theorem ms_RX7_28 : sr_MS RX7 28 yJ9_max_7cf53 cJ9_max_7cf53 2 (some .int) 2 := ⟨wm_895, wm_238, wm_9, wm_239, ⟨by decide +kernel, by decide +kernel⟩, by decide +kernel, by decide⟩
theorem ms_RX7_31 : sr_MS RX7 31 yJ7_fill_53178 cJ7_fill_53178 4 none 2 := ⟨wm_896, wm_60, wm_4, wm_61, ⟨by decide +kernel, by decide +kernel⟩, by decide +kernel, by decide⟩
theorem mv_RX7_37 : sr_MV RX7 37 yX7_isLost cX7_isLost 1 (some .boolean) 0 7 := ⟨⟨(RX7, TX7, 3), rfl, rfl⟩, wm_909, wm_559, wm_560, wm_10, wm_561, ⟨by decide +kernel, by decide +kernel⟩, by decide +kernel, by decide⟩
theorem mv_RX7_41 : sr_MV RX7 41 yX7_hasItem cX7_hasItem 2 (some .boolean) 1 7 := ⟨⟨(RX7, TX7, 3), rfl, rfl⟩, wm_570, wm_572, pv_X7_hasItem, wm_10, wm_573, ⟨by decide +kernel, by decide +kernel⟩, by decide +kernel, by decide⟩
theorem mv_RX8_26 : sr_MV RX8 26 yX6_outcome cX6_outcome 2 (some .int) 1 6 := ⟨⟨(RX6, TX6, 13), rfl, rfl⟩, wm_776, wm_777, wm_778, wm_5, wm_779, ⟨by decide +kernel, by decide +kernel⟩, by decide +kernel, by decide⟩
theorem ms_RX9_15 : sr_MS RX9 15 yJ9_max_7cf53 cJ9_max_7cf53 2 (some .int) 2 := ⟨wm_237, wm_238, wm_9, wm_239, ⟨by decide +kernel, by decide +kernel⟩, by decide +kernel, by decide⟩
theorem ms_RX10_23 : sr_MS RX10 23 yX10_firstFault cX10_firstFault 6 (some .int) 1 := ⟨wm_454, wm_455, wm_2, wm_456, ⟨by decide +kernel, by decide +kernel⟩, by decide +kernel, by decide⟩
theorem mv_RX10_27 : sr_MV RX10 27 yX10_fill cX10_fill 5 (some .int) 1 10 := ⟨⟨(RX10, TX10, 3), rfl, rfl⟩, wm_461, wm_463, pv_X10_fill, wm_2, wm_464, ⟨by decide +kernel, by decide +kernel⟩, by decide +kernel, by decide⟩
theorem mv_RX10_30 : sr_MV RX10 30 yX10_link cX10_link 4 none 2 10 := ⟨⟨(RX10, TX10, 3), rfl, rfl⟩, wm_465, wm_467, pv_X10_link, wm_2, wm_468, ⟨by decide +kernel, by decide +kernel⟩, by decide +kernel, by decide⟩
theorem mv_RX10_39 : sr_MV RX10 39 yX9_sign cX9_sign 2 (some .int) 1 9 := ⟨⟨(RX9, TX9, 2), rfl, rfl⟩, wm_457, wm_458, wm_459, wm_8, wm_460, ⟨by decide +kernel, by decide +kernel⟩, by decide +kernel, by decide⟩
theorem mv_RX10_43 : sr_MV RX10 43 yX10_link_ cX10_link_ 5 none 4 10 := ⟨⟨(RX10, TX10, 3), rfl, rfl⟩, wm_469, wm_471, pv_X10_link_, wm_2, wm_472, ⟨by decide +kernel, by decide +kernel⟩, by decide +kernel, by decide⟩
theorem mv_RX10_46 : sr_MV RX10 46 yX10_isOpen cX10_isOpen 2 (some .boolean) 1 10 := ⟨⟨(RX10, TX10, 3), rfl, rfl⟩, wm_473, wm_474, wm_475, wm_2, wm_476, ⟨by decide +kernel, by decide +kernel⟩, by decide +kernel, by decide⟩
theorem mv_RL_13 : sr_MV RL 13 yX11_type cX11_type 3 (some .int) 2 11 := ⟨⟨(RX11, TX11, 13), rfl, rfl⟩, wm_435, wm_436, wm_437, wm_1, wm_438, ⟨by decide +kernel, by decide +kernel⟩, by decide +kernel, by decide⟩
theorem mv_RL_17 : sr_MV RL 17 yX12_type cX12_type 3 (some .int) 2 12 := ⟨⟨(RX12, TX12, 32), rfl, rfl⟩, wm_1115, wm_1116, wm_1117, wm_15, wm_1118, ⟨by decide +kernel, by decide +kernel⟩, by decide +kernel, by decide⟩
theorem mv_RL_18 : sr_MV RL 18 yX11_wipe cX11_wipe 3 (some .int) 1 11 := ⟨⟨(RX11, TX11, 13), rfl, rfl⟩, wm_498, wm_499, wm_500, wm_1, wm_501, ⟨by decide +kernel, by decide +kernel⟩, by decide +kernel, by decide⟩
theorem mv_RL_22 : sr_MV RL 22 yX12_wipe cX12_wipe 3 (some .int) 1 12 := ⟨⟨(RX12, TX12, 32), rfl, rfl⟩, wm_1123, wm_1124, wm_1125, wm_15, wm_1126, ⟨by decide +kernel, by decide +kernel⟩, by decide +kernel, by decide⟩
theorem mv_RL_23 : sr_MV RL 23 yX11_undo cX11_undo 2 (some .int) 1 11 := ⟨⟨(RX11, TX11, 13), rfl, rfl⟩, wm_502, wm_503, wm_504, wm_1, wm_505, ⟨by decide +kernel, by decide +kernel⟩, by decide +kernel, by decide⟩
theorem mv_RL_26 : sr_MV RL 26 yX12_undo cX12_undo 2 (some .int) 1 12 := ⟨⟨(RX12, TX12, 32), rfl, rfl⟩, wm_1127, wm_1128, wm_1129, wm_15, wm_1130, ⟨by decide +kernel, by decide +kernel⟩, by decide +kernel, by decide⟩
theorem mv_RL_27 : sr_MV RL 27 yX11_fault cX11_fault 2 (some .int) 1 11 := ⟨⟨(RX11, TX11, 13), rfl, rfl⟩, wm_506, wm_507, wm_508, wm_1, wm_509, ⟨by decide +kernel, by decide +kernel⟩, by decide +kernel, by decide⟩
theorem mv_RL_30 : sr_MV RL 30 yX12_fault cX12_fault 2 (some .int) 1 12 := ⟨⟨(RX12, TX12, 32), rfl, rfl⟩, wm_1131, wm_1132, wm_1133, wm_15, wm_1134, ⟨by decide +kernel, by decide +kernel⟩, by decide +kernel, by decide⟩
theorem mv_RL_31 : sr_MV RL 31 yX11_cell cX11_cell 2 (some .int) 1 11 := ⟨⟨(RX11, TX11, 13), rfl, rfl⟩, wm_510, wm_511, wm_512, wm_1, wm_513, ⟨by decide +kernel, by decide +kernel⟩, by decide +kernel, by decide⟩
theorem mv_RL_34 : sr_MV RL 34 yX12_cell cX12_cell 2 (some .int) 1 12 := ⟨⟨(RX12, TX12, 32), rfl, rfl⟩, wm_1166, wm_1167, wm_1168, wm_15, wm_1169, ⟨by decide +kernel, by decide +kernel⟩, by decide +kernel, by decide⟩
theorem mv_RL_35 : sr_MV RL 35 yX11_thing cX11_thing 3 (some .int) 2 11 := ⟨⟨(RX11, TX11, 13), rfl, rfl⟩, wm_515, wm_516, wm_517, wm_1, wm_518, ⟨by decide +kernel, by decide +kernel⟩, by decide +kernel, by decide⟩
theorem mv_RL_38 : sr_MV RL 38 yX12_thing cX12_thing 3 (some .int) 2 12 := ⟨⟨(RX12, TX12, 32), rfl, rfl⟩, wm_1171, wm_1172, wm_1173, wm_15, wm_1174, ⟨by decide +kernel, by decide +kernel⟩, by decide +kernel, by decide⟩
theorem mv_RL_39 : sr_MV RL 39 yX11_wind cX11_wind 2 (some .int) 1 11 := ⟨⟨(RX11, TX11, 13), rfl, rfl⟩, wm_523, wm_524, wm_525, wm_1, wm_526, ⟨by decide +kernel, by decide +kernel⟩, by decide +kernel, by decide⟩
theorem mv_RL_42 : sr_MV RL 42 yX12_wind cX12_wind 2 (some .int) 1 12 := ⟨⟨(RX12, TX12, 32), rfl, rfl⟩, wm_1179, wm_1180, wm_1181, wm_15, wm_1182, ⟨by decide +kernel, by decide +kernel⟩, by decide +kernel, by decide⟩
theorem mv_RL_43 : sr_MV RL 43 yX11_widens cX11_widens 3 (some .int) 1 11 := ⟨⟨(RX11, TX11, 13), rfl, rfl⟩, wm_527, wm_528, wm_529, wm_1, wm_530, ⟨by decide +kernel, by decide +kernel⟩, by decide +kernel, by decide⟩
theorem mv_RL_46 : sr_MV RL 46 yX12_widens cX12_widens 3 (some .int) 1 12 := ⟨⟨(RX12, TX12, 32), rfl, rfl⟩, wm_1187, wm_1188, wm_1189, wm_15, wm_1190, ⟨by decide +kernel, by decide +kernel⟩, by decide +kernel, by decide⟩
theorem mv_RL_47 : sr_MV RL 47 yX11_blow cX11_blow 6 (some .int) 5 11 := ⟨⟨(RX11, TX11, 13), rfl, rfl⟩, wm_531, wm_532, wm_533, wm_1, wm_534, ⟨by decide +kernel, by decide +kernel⟩, by decide +kernel, by decide⟩
theorem mv_RL_51 : sr_MV RL 51 yX12_blow cX12_blow 6 (some .int) 5 12 := ⟨⟨(RX12, TX12, 32), rfl, rfl⟩, wm_1192, wm_1193, wm_1194, wm_15, wm_1195, ⟨by decide +kernel, by decide +kernel⟩, by decide +kernel, by decide⟩
theorem mv_RL_52 : sr_MV RL 52 yX11_ring cX11_ring 3 (some .int) 2 11 := ⟨⟨(RX11, TX11, 13), rfl, rfl⟩, wm_542, wm_543, wm_544, wm_1, wm_545, ⟨by decide +kernel, by decide +kernel⟩, by decide +kernel, by decide⟩
theorem mv_RL_55 : sr_MV RL 55 yX12_ring cX12_ring 3 (some .int) 2 12 := ⟨⟨(RX12, TX12, 32), rfl, rfl⟩, wm_1201, wm_1202, wm_1203, wm_15, wm_1204, ⟨by decide +kernel, by decide +kernel⟩, by decide +kernel, by decide⟩
theorem mv_RL_56 : sr_MV RL 56 yX11_back cX11_back 1 (some .int) 0 11 := ⟨⟨(RX11, TX11, 13), rfl, rfl⟩, wm_550, wm_551, wm_552, wm_1, wm_553, ⟨by decide +kernel, by decide +kernel⟩, by decide +kernel, by decide⟩
theorem mv_RL_60 : sr_MV RL 60 yX12_back cX12_back 1 (some .int) 0 12 := ⟨⟨(RX12, TX12, 32), rfl, rfl⟩, wm_1209, wm_1210, wm_1211, wm_15, wm_1212, ⟨by decide +kernel, by decide +kernel⟩, by decide +kernel, by decide⟩
theorem mv_RL_61 : sr_MV RL 61 yX11_read cX11_read 10 (some .int) 1 11 := ⟨⟨(RX11, TX11, 13), rfl, rfl⟩, wm_554, wm_555, wm_556, wm_1, wm_557, ⟨by decide +kernel, by decide +kernel⟩, by decide +kernel, by decide⟩
theorem mv_RL_64 : sr_MV RL 64 yX12_read cX12_read 5 (some .int) 1 12 := ⟨⟨(RX12, TX12, 32), rfl, rfl⟩, wm_1213, wm_1214, wm_1215, wm_15, wm_1216, ⟨by decide +kernel, by decide +kernel⟩, by decide +kernel, by decide⟩
theorem mv_RL_65 : sr_MV RL 65 yX11_at cX11_at 4 (some .int) 3 11 := ⟨⟨(RX11, TX11, 13), rfl, rfl⟩, wm_574, wm_575, wm_576, wm_1, wm_577, ⟨by decide +kernel, by decide +kernel⟩, by decide +kernel, by decide⟩
theorem mv_RL_69 : sr_MV RL 69 yX12_at cX12_at 4 (some .int) 3 12 := ⟨⟨(RX12, TX12, 32), rfl, rfl⟩, wm_1218, wm_1219, wm_1220, wm_15, wm_1221, ⟨by decide +kernel, by decide +kernel⟩, by decide +kernel, by decide⟩
theorem mv_RL_70 : sr_MV RL 70 yX11_bound cX11_bound 3 (some .int) 2 11 := ⟨⟨(RX11, TX11, 13), rfl, rfl⟩, wm_627, wm_628, wm_629, wm_1, wm_630, ⟨by decide +kernel, by decide +kernel⟩, by decide +kernel, by decide⟩
theorem mv_RL_73 : sr_MV RL 73 yX12_bound cX12_bound 3 (some .int) 2 12 := ⟨⟨(RX12, TX12, 32), rfl, rfl⟩, wm_1277, wm_1278, wm_1279, wm_15, wm_1280, ⟨by decide +kernel, by decide +kernel⟩, by decide +kernel, by decide⟩
theorem mv_RL_74 : sr_MV RL 74 yX11_wed cX11_wed 3 (some .int) 2 11 := ⟨⟨(RX11, TX11, 13), rfl, rfl⟩, wm_631, wm_632, wm_633, wm_1, wm_634, ⟨by decide +kernel, by decide +kernel⟩, by decide +kernel, by decide⟩
theorem mv_RL_77 : sr_MV RL 77 yX12_wed cX12_wed 3 (some .int) 2 12 := ⟨⟨(RX12, TX12, 32), rfl, rfl⟩, wm_1289, wm_1290, wm_1291, wm_15, wm_1292, ⟨by decide +kernel, by decide +kernel⟩, by decide +kernel, by decide⟩
theorem mv_RL_78 : sr_MV RL 78 yX11_throughs cX11_throughs 2 (some .int) 1 11 := ⟨⟨(RX11, TX11, 13), rfl, rfl⟩, wm_647, wm_648, wm_649, wm_1, wm_650, ⟨by decide +kernel, by decide +kernel⟩, by decide +kernel, by decide⟩
theorem mv_RL_81 : sr_MV RL 81 yX12_throughs cX12_throughs 2 (some .int) 1 12 := ⟨⟨(RX12, TX12, 32), rfl, rfl⟩, wm_1304, wm_1305, wm_1306, wm_15, wm_1307, ⟨by decide +kernel, by decide +kernel⟩, by decide +kernel, by decide⟩
theorem mv_RL_82 : sr_MV RL 82 yX11_missed cX11_missed 3 (some .int) 0 11 := ⟨⟨(RX11, TX11, 13), rfl, rfl⟩, wm_651, wm_652, wm_653, wm_1, wm_654, ⟨by decide +kernel, by decide +kernel⟩, by decide +kernel, by decide⟩
theorem mv_RL_85 : sr_MV RL 85 yX12_missed cX12_missed 1 (some .int) 0 12 := ⟨⟨(RX12, TX12, 32), rfl, rfl⟩, wm_1308, wm_1309, wm_1310, wm_15, wm_1311, ⟨by decide +kernel, by decide +kernel⟩, by decide +kernel, by decide⟩
theorem mv_RL_86 : sr_MV RL 86 yX11_richest cX11_richest 5 (some .int) 0 11 := ⟨⟨(RX11, TX11, 13), rfl, rfl⟩, wm_655, wm_656, wm_657, wm_1, wm_658, ⟨by decide +kernel, by decide +kernel⟩, by decide +kernel, by decide⟩
theorem mv_RL_89 : sr_MV RL 89 yX12_richest cX12_richest 1 (some .int) 0 12 := ⟨⟨(RX12, TX12, 32), rfl, rfl⟩, wm_1316, wm_1317, wm_1318, wm_15, wm_1319, ⟨by decide +kernel, by decide +kernel⟩, by decide +kernel, by decide⟩
theorem mv_RL_90 : sr_MV RL 90 yX11_lonely cX11_lonely 4 (some .int) 0 11 := ⟨⟨(RX11, TX11, 13), rfl, rfl⟩, wm_665, wm_666, wm_667, wm_1, wm_668, ⟨by decide +kernel, by decide +kernel⟩, by decide +kernel, by decide⟩
theorem mv_RL_93 : sr_MV RL 93 yX12_lonely cX12_lonely 1 (some .int) 0 12 := ⟨⟨(RX12, TX12, 32), rfl, rfl⟩, wm_1330, wm_1331, wm_1332, wm_15, wm_1333, ⟨by decide +kernel, by decide +kernel⟩, by decide +kernel, by decide⟩
theorem mv_RL_94 : sr_MV RL 94 yX11_breath cX11_breath 3 (some .int) 2 11 := ⟨⟨(RX11, TX11, 13), rfl, rfl⟩, wm_669, wm_670, wm_671, wm_1, wm_672, ⟨by decide +kernel, by decide +kernel⟩, by decide +kernel, by decide⟩
theorem mv_RL_97 : sr_MV RL 97 yX12_breath cX12_breath 3 (some .int) 2 12 := ⟨⟨(RX12, TX12, 32), rfl, rfl⟩, wm_1338, wm_1339, wm_1340, wm_15, wm_1341, ⟨by decide +kernel, by decide +kernel⟩, by decide +kernel, by decide⟩
theorem mv_RL_98 : sr_MV RL 98 yX11_aim cX11_aim 3 (some .int) 2 11 := ⟨⟨(RX11, TX11, 13), rfl, rfl⟩, wm_690, wm_691, wm_692, wm_1, wm_693, ⟨by decide +kernel, by decide +kernel⟩, by decide +kernel, by decide⟩
theorem mv_RL_101 : sr_MV RL 101 yX12_aim cX12_aim 3 (some .int) 2 12 := ⟨⟨(RX12, TX12, 32), rfl, rfl⟩, wm_1346, wm_1347, wm_1348, wm_15, wm_1349, ⟨by decide +kernel, by decide +kernel⟩, by decide +kernel, by decide⟩
theorem mv_RL_102 : sr_MV RL 102 yX11_stand cX11_stand 2 (some .int) 1 11 := ⟨⟨(RX11, TX11, 13), rfl, rfl⟩, wm_698, wm_699, wm_700, wm_1, wm_701, ⟨by decide +kernel, by decide +kernel⟩, by decide +kernel, by decide⟩
theorem mv_RL_105 : sr_MV RL 105 yX12_stand cX12_stand 2 (some .int) 1 12 := ⟨⟨(RX12, TX12, 32), rfl, rfl⟩, wm_1358, wm_1359, wm_1360, wm_15, wm_1361, ⟨by decide +kernel, by decide +kernel⟩, by decide +kernel, by decide⟩
theorem mv_RL_106 : sr_MV RL 106 yX11_hush cX11_hush 3 (some .int) 2 11 := ⟨⟨(RX11, TX11, 13), rfl, rfl⟩, wm_711, wm_712, wm_713, wm_1, wm_714, ⟨by decide +kernel, by decide +kernel⟩, by decide +kernel, by decide⟩
theorem mv_RL_109 : sr_MV RL 109 yX12_hush cX12_hush 3 (some .int) 2 12 := ⟨⟨(RX12, TX12, 32), rfl, rfl⟩, wm_1366, wm_1367, wm_1368, wm_15, wm_1369, ⟨by decide +kernel, by decide +kernel⟩, by decide +kernel, by decide⟩
theorem mv_RL_110 : sr_MV RL 110 yX11_calm cX11_calm 2 (some .int) 1 11 := ⟨⟨(RX11, TX11, 13), rfl, rfl⟩, wm_727, wm_728, wm_729, wm_1, wm_730, ⟨by decide +kernel, by decide +kernel⟩, by decide +kernel, by decide⟩
theorem mv_RL_113 : sr_MV RL 113 yX12_calm cX12_calm 2 (some .int) 1 12 := ⟨⟨(RX12, TX12, 32), rfl, rfl⟩, wm_1379, wm_1380, wm_1381, wm_15, wm_1382, ⟨by decide +kernel, by decide +kernel⟩, by decide +kernel, by decide⟩
theorem mv_RL_114 : sr_MV RL 114 yX11_free cX11_free 4 (some .int) 3 11 := ⟨⟨(RX11, TX11, 13), rfl, rfl⟩, wm_735, wm_736, wm_737, wm_1, wm_738, ⟨by decide +kernel, by decide +kernel⟩, by decide +kernel, by decide⟩
theorem mv_RL_117 : sr_MV RL 117 yX12_free cX12_free 4 (some .int) 3 12 := ⟨⟨(RX12, TX12, 32), rfl, rfl⟩, wm_1387, wm_1388, wm_1389, wm_15, wm_1390, ⟨by decide +kernel, by decide +kernel⟩, by decide +kernel, by decide⟩
theorem mv_RL_118 : sr_MV RL 118 yX11_seen cX11_seen 3 (some .int) 2 11 := ⟨⟨(RX11, TX11, 13), rfl, rfl⟩, wm_746, wm_747, wm_748, wm_1, wm_749, ⟨by decide +kernel, by decide +kernel⟩, by decide +kernel, by decide⟩
theorem mv_RL_121 : sr_MV RL 121 yX12_seen cX12_seen 3 (some .int) 2 12 := ⟨⟨(RX12, TX12, 32), rfl, rfl⟩, wm_1400, wm_1401, wm_1402, wm_15, wm_1403, ⟨by decide +kernel, by decide +kernel⟩, by decide +kernel, by decide⟩
theorem mv_RL_122 : sr_MV RL 122 yX11_forget cX11_forget 2 (some .int) 0 11 := ⟨⟨(RX11, TX11, 13), rfl, rfl⟩, wm_754, wm_755, wm_756, wm_1, wm_757, ⟨by decide +kernel, by decide +kernel⟩, by decide +kernel, by decide⟩
theorem mv_RL_125 : sr_MV RL 125 yX12_forget cX12_forget 2 (some .int) 0 12 := ⟨⟨(RX12, TX12, 32), rfl, rfl⟩, wm_1405, wm_1406, wm_1407, wm_15, wm_1408, ⟨by decide +kernel, by decide +kernel⟩, by decide +kernel, by decide⟩
theorem mv_RL_126 : sr_MV RL 126 yX11_never cX11_never 1 (some .int) 0 11 := ⟨⟨(RX11, TX11, 13), rfl, rfl⟩, wm_758, wm_759, wm_760, wm_1, wm_761, ⟨by decide +kernel, by decide +kernel⟩, by decide +kernel, by decide⟩
theorem mv_RL_129 : sr_MV RL 129 yX12_never cX12_never 1 (some .int) 0 12 := ⟨⟨(RX12, TX12, 32), rfl, rfl⟩, wm_1409, wm_1410, wm_1411, wm_15, wm_1412, ⟨by decide +kernel, by decide +kernel⟩, by decide +kernel, by decide⟩
theorem mv_RL_130 : sr_MV RL 130 yX11_whence cX11_whence 3 (some .int) 2 11 := ⟨⟨(RX11, TX11, 13), rfl, rfl⟩, wm_780, wm_781, wm_782, wm_1, wm_783, ⟨by decide +kernel, by decide +kernel⟩, by decide +kernel, by decide⟩
theorem mv_RL_133 : sr_MV RL 133 yX12_whence cX12_whence 3 (some .int) 2 12 := ⟨⟨(RX12, TX12, 32), rfl, rfl⟩, wm_1421, wm_1422, wm_1423, wm_15, wm_1424, ⟨by decide +kernel, by decide +kernel⟩, by decide +kernel, by decide⟩
theorem mv_RL_134 : sr_MV RL 134 yX11_paces cX11_paces 1 (some .int) 0 11 := ⟨⟨(RX11, TX11, 13), rfl, rfl⟩, wm_798, wm_799, wm_800, wm_1, wm_801, ⟨by decide +kernel, by decide +kernel⟩, by decide +kernel, by decide⟩
theorem mv_RL_137 : sr_MV RL 137 yX12_paces cX12_paces 1 (some .int) 0 12 := ⟨⟨(RX12, TX12, 32), rfl, rfl⟩, wm_1429, wm_1430, wm_1431, wm_15, wm_1432, ⟨by decide +kernel, by decide +kernel⟩, by decide +kernel, by decide⟩
theorem mv_RL_138 : sr_MV RL 138 yX11_ask cX11_ask 1 (some .int) 0 11 := ⟨⟨(RX11, TX11, 13), rfl, rfl⟩, wm_806, wm_807, wm_808, wm_1, wm_809, ⟨by decide +kernel, by decide +kernel⟩, by decide +kernel, by decide⟩
theorem mv_RL_141 : sr_MV RL 141 yX12_ask cX12_ask 1 (some .int) 0 12 := ⟨⟨(RX12, TX12, 32), rfl, rfl⟩, wm_1437, wm_1438, wm_1439, wm_15, wm_1440, ⟨by decide +kernel, by decide +kernel⟩, by decide +kernel, by decide⟩
theorem mv_RL_142 : sr_MV RL 142 yX11_still cX11_still 6 (some .long) 5 11 := ⟨⟨(RX11, TX11, 13), rfl, rfl⟩, wm_825, wm_826, wm_827, wm_1, wm_828, ⟨by decide +kernel, by decide +kernel⟩, by decide +kernel, by decide⟩
theorem mv_RL_146 : sr_MV RL 146 yX12_still cX12_still 6 (some .long) 5 12 := ⟨⟨(RX12, TX12, 32), rfl, rfl⟩, wm_1445, wm_1446, wm_1447, wm_15, wm_1448, ⟨by decide +kernel, by decide +kernel⟩, by decide +kernel, by decide⟩
theorem mv_RL_147 : sr_MV RL 147 yX11_evening cX11_evening 4 (some .int) 3 11 := ⟨⟨(RX11, TX11, 13), rfl, rfl⟩, wm_868, wm_869, wm_870, wm_1, wm_871, ⟨by decide +kernel, by decide +kernel⟩, by decide +kernel, by decide⟩
theorem mv_RL_150 : sr_MV RL 150 yX12_evening cX12_evening 4 (some .int) 3 12 := ⟨⟨(RX12, TX12, 32), rfl, rfl⟩, wm_1461, wm_1462, wm_1463, wm_15, wm_1464, ⟨by decide +kernel, by decide +kernel⟩, by decide +kernel, by decide⟩
theorem mv_RL_151 : sr_MV RL 151 yX11_sheet cX11_sheet 4 (some .int) 3 11 := ⟨⟨(RX11, TX11, 13), rfl, rfl⟩, wm_886, wm_887, wm_888, wm_1, wm_889, ⟨by decide +kernel, by decide +kernel⟩, by decide +kernel, by decide⟩
theorem mv_RL_154 : sr_MV RL 154 yX12_sheet cX12_sheet 5 (some .int) 3 12 := ⟨⟨(RX12, TX12, 32), rfl, rfl⟩, wm_1075, wm_1076, wm_1077, wm_15, wm_1078, ⟨by decide +kernel, by decide +kernel⟩, by decide +kernel, by decide⟩
theorem mv_RL_155 : sr_MV RL 155 yX11_lose cX11_lose 3 (some .int) 1 11 := ⟨⟨(RX11, TX11, 13), rfl, rfl⟩, wm_897, wm_898, wm_899, wm_1, wm_900, ⟨by decide +kernel, by decide +kernel⟩, by decide +kernel, by decide⟩
theorem mv_RL_158 : sr_MV RL 158 yX12_lose cX12_lose 2 (some .int) 1 12 := ⟨⟨(RX12, TX12, 32), rfl, rfl⟩, wm_1091, wm_1092, wm_1093, wm_15, wm_1094, ⟨by decide +kernel, by decide +kernel⟩, by decide +kernel, by decide⟩
theorem mv_RL_159 : sr_MV RL 159 yX11_lay cX11_lay 6 (some .int) 4 11 := ⟨⟨(RX11, TX11, 13), rfl, rfl⟩, wm_901, wm_902, wm_903, wm_1, wm_904, ⟨by decide +kernel, by decide +kernel⟩, by decide +kernel, by decide⟩
theorem mv_RL_163 : sr_MV RL 163 yX12_lay cX12_lay 6 (some .int) 4 12 := ⟨⟨(RX12, TX12, 32), rfl, rfl⟩, wm_1095, wm_1096, wm_1097, wm_15, wm_1098, ⟨by decide +kernel, by decide +kernel⟩, by decide +kernel, by decide⟩
theorem mv_RL_164 : sr_MV RL 164 yX11_get cX11_get 5 (some .int) 3 11 := ⟨⟨(RX11, TX11, 13), rfl, rfl⟩, wm_914, wm_915, wm_916, wm_1, wm_917, ⟨by decide +kernel, by decide +kernel⟩, by decide +kernel, by decide⟩
theorem mv_RL_167 : sr_MV RL 167 yX12_get cX12_get 4 (some .int) 3 12 := ⟨⟨(RX12, TX12, 32), rfl, rfl⟩, wm_1106, wm_1107, wm_1108, wm_15, wm_1109, ⟨by decide +kernel, by decide +kernel⟩, by decide +kernel, by decide⟩
theorem mv_RL_168 : sr_MV RL 168 yX11_copy cX11_copy 8 (some .int) 5 11 := ⟨⟨(RX11, TX11, 13), rfl, rfl⟩, wm_919, wm_920, wm_921, wm_1, wm_922, ⟨by decide +kernel, by decide +kernel⟩, by decide +kernel, by decide⟩
theorem mv_RL_171 : sr_MV RL 171 yX12_copy cX12_copy 7 (some .int) 5 12 := ⟨⟨(RX12, TX12, 32), rfl, rfl⟩, wm_1111, wm_1112, wm_1113, wm_15, wm_1114, ⟨by decide +kernel, by decide +kernel⟩, by decide +kernel, by decide⟩
theorem mv_RL_172 : sr_MV RL 172 yX11_write cX11_write 5 (some .int) 2 11 := ⟨⟨(RX11, TX11, 13), rfl, rfl⟩, wm_928, wm_929, wm_930, wm_1, wm_931, ⟨by decide +kernel, by decide +kernel⟩, by decide +kernel, by decide⟩
theorem mv_RL_175 : sr_MV RL 175 yX12_write cX12_write 5 (some .int) 2 12 := ⟨⟨(RX12, TX12, 32), rfl, rfl⟩, wm_1475, wm_1476, wm_1477, wm_15, wm_1478, ⟨by decide +kernel, by decide +kernel⟩, by decide +kernel, by decide⟩
theorem mv_RL_176 : sr_MV RL 176 yX11_count cX11_count 2 (some .int) 1 11 := ⟨⟨(RX11, TX11, 13), rfl, rfl⟩, wm_933, wm_934, wm_935, wm_1, wm_936, ⟨by decide +kernel, by decide +kernel⟩, by decide +kernel, by decide⟩
theorem mv_RL_179 : sr_MV RL 179 yX12_count cX12_count 2 (some .int) 1 12 := ⟨⟨(RX12, TX12, 32), rfl, rfl⟩, wm_1482, wm_1483, wm_1484, wm_15, wm_1485, ⟨by decide +kernel, by decide +kernel⟩, by decide +kernel, by decide⟩
theorem mv_RL_180 : sr_MV RL 180 yX11_digest cX11_digest 4 (some .long) 0 11 := ⟨⟨(RX11, TX11, 13), rfl, rfl⟩, wm_937, wm_938, wm_939, wm_1, wm_940, ⟨by decide +kernel, by decide +kernel⟩, by decide +kernel, by decide⟩
theorem mv_RL_184 : sr_MV RL 184 yX12_digest cX12_digest 4 (some .long) 0 12 := ⟨⟨(RX12, TX12, 32), rfl, rfl⟩, wm_1486, wm_1487, wm_1488, wm_15, wm_1489, ⟨by decide +kernel, by decide +kernel⟩, by decide +kernel, by decide⟩
theorem ms_RX12_76 : sr_MS RX12 76 yX12_in cX12_in 6 (some .boolean) 3 := ⟨wm_1083, wm_1084, wm_15, wm_1085, ⟨by decide +kernel, by decide +kernel⟩, by decide +kernel, by decide⟩
theorem ms_RX12_85 : sr_MS RX12 85 yX12_isSheet cX12_isSheet 1 (some .boolean) 1 := ⟨wm_1079, wm_1080, wm_15, wm_1081, ⟨by decide +kernel, by decide +kernel⟩, by decide +kernel, by decide⟩
theorem mv_RX12_91 : sr_MV RX12 91 yX12_finds cX12_finds 2 (some .int) 1 12 := ⟨⟨(RX12, TX12, 32), rfl, rfl⟩, wm_1087, wm_1089, pv_X12_finds, wm_15, wm_1090, ⟨by decide +kernel, by decide +kernel⟩, by decide +kernel, by decide⟩
theorem mv_RX12_95 : sr_MV RX12 95 yX12_lacks cX12_lacks 4 (some .int) 3 12 := ⟨⟨(RX12, TX12, 32), rfl, rfl⟩, wm_1099, wm_1101, pv_X12_lacks, wm_15, wm_1102, ⟨by decide +kernel, by decide +kernel⟩, by decide +kernel, by decide⟩
theorem ms_RX12_99 : sr_MS RX12 99 yX12_cut cX12_cut 2 (some .int) 2 := ⟨wm_1103, wm_1104, wm_15, wm_1105, ⟨by decide +kernel, by decide +kernel⟩, by decide +kernel, by decide⟩
theorem ms_RX12_104 : sr_MS RX12 104 yX12_isText cX12_isText 1 (some .boolean) 1 := ⟨wm_1119, wm_1120, wm_15, wm_1121, ⟨by decide +kernel, by decide +kernel⟩, by decide +kernel, by decide⟩
theorem mv_RX12_115 : sr_MV RX12 115 yX12_torn cX12_torn 2 (some .int) 1 12 := ⟨⟨(RX12, TX12, 32), rfl, rfl⟩, wm_1143, wm_1145, pv_X12_torn, wm_15, wm_1146, ⟨by decide +kernel, by decide +kernel⟩, by decide +kernel, by decide⟩
theorem ms_RX12_129 : sr_MS RX12 129 yX12_thingOf cX12_thingOf 2 (some .int) 2 := ⟨wm_1151, wm_1152, wm_15, wm_1153, ⟨by decide +kernel, by decide +kernel⟩, by decide +kernel, by decide⟩
theorem mv_RX12_132 : sr_MV RX12 132 yX12_stills cX12_stills 2 none 0 12 := ⟨⟨(RX12, TX12, 32), rfl, rfl⟩, wm_1162, wm_1164, pv_X12_stills, wm_15, wm_1165, ⟨by decide +kernel, by decide +kernel⟩, by decide +kernel, by decide⟩
theorem mv_RX12_135 : sr_MV RX12 135 yX12_readsValley cX12_readsValley 6 (some .int) 0 12 := ⟨⟨(RX12, TX12, 32), rfl, rfl⟩, wm_1139, wm_1141, pv_X12_readsValley, wm_15, wm_1142, ⟨by decide +kernel, by decide +kernel⟩, by decide +kernel, by decide⟩
theorem mv_RX12_139 : sr_MV RX12 139 yX12_readsThings cX12_readsThings 6 (some .int) 0 12 := ⟨⟨(RX12, TX12, 32), rfl, rfl⟩, wm_1147, wm_1149, pv_X12_readsThings, wm_15, wm_1150, ⟨by decide +kernel, by decide +kernel⟩, by decide +kernel, by decide⟩
theorem mv_RX12_142 : sr_MV RX12 142 yX12_readsWind cX12_readsWind 4 (some .int) 0 12 := ⟨⟨(RX12, TX12, 32), rfl, rfl⟩, wm_1158, wm_1160, pv_X12_readsWind, wm_15, wm_1161, ⟨by decide +kernel, by decide +kernel⟩, by decide +kernel, by decide⟩
theorem mv_RX12_145 : sr_MV RX12 145 yX12_readsText cX12_readsText 2 (some .int) 1 12 := ⟨⟨(RX12, TX12, 32), rfl, rfl⟩, wm_1135, wm_1137, pv_X12_readsText, wm_15, wm_1138, ⟨by decide +kernel, by decide +kernel⟩, by decide +kernel, by decide⟩
theorem mv_RX12_152 : sr_MV RX12 152 yX12_isThing cX12_isThing 2 (some .boolean) 1 12 := ⟨⟨(RX12, TX12, 32), rfl, rfl⟩, wm_1175, wm_1177, pv_X12_isThing, wm_15, wm_1178, ⟨by decide +kernel, by decide +kernel⟩, by decide +kernel, by decide⟩
theorem ms_RX12_155 : sr_MS RX12 155 yX12_isStep cX12_isStep 1 (some .boolean) 1 := ⟨wm_1183, wm_1184, wm_15, wm_1185, ⟨by decide +kernel, by decide +kernel⟩, by decide +kernel, by decide⟩
theorem mv_RX12_165 : sr_MV RX12 165 yX12_puts cX12_puts 6 none 5 12 := ⟨⟨(RX12, TX12, 32), rfl, rfl⟩, wm_1197, wm_1199, pv_X12_puts, wm_15, wm_1200, ⟨by decide +kernel, by decide +kernel⟩, by decide +kernel, by decide⟩
theorem mv_RX12_169 : sr_MV RX12 169 yX12_isRing cX12_isRing 2 (some .boolean) 1 12 := ⟨⟨(RX12, TX12, 32), rfl, rfl⟩, wm_1205, wm_1207, pv_X12_isRing, wm_15, wm_1208, ⟨by decide +kernel, by decide +kernel⟩, by decide +kernel, by decide⟩
theorem mv_RX12_172 : sr_MV RX12 172 yX12_blow cX12_blow 6 (some .int) 5 12 := ⟨⟨(RX12, TX12, 32), rfl, rfl⟩, wm_1217, wm_1193, wm_1194, wm_15, wm_1195, ⟨by decide +kernel, by decide +kernel⟩, by decide +kernel, by decide⟩
theorem mv_RX12_176 : sr_MV RX12 176 yX12_beside cX12_beside 4 (some .int) 2 12 := ⟨⟨(RX12, TX12, 32), rfl, rfl⟩, wm_1242, wm_1244, pv_X12_beside, wm_15, wm_1245, ⟨by decide +kernel, by decide +kernel⟩, by decide +kernel, by decide⟩
theorem mv_RX12_179 : sr_MV RX12 179 yX12_goes cX12_goes 4 none 2 12 := ⟨⟨(RX12, TX12, 32), rfl, rfl⟩, wm_1238, wm_1240, pv_X12_goes, wm_15, wm_1241, ⟨by decide +kernel, by decide +kernel⟩, by decide +kernel, by decide⟩
theorem ms_RX12_186 : sr_MS RX12 186 yX12_isIn cX12_isIn 2 (some .boolean) 2 := ⟨wm_1246, wm_1247, wm_15, wm_1248, ⟨by decide +kernel, by decide +kernel⟩, by decide +kernel, by decide⟩
theorem mv_RX12_190 : sr_MV RX12 190 yX12_isCell cX12_isCell 2 (some .boolean) 1 12 := ⟨⟨(RX12, TX12, 32), rfl, rfl⟩, wm_1253, wm_1255, pv_X12_isCell, wm_15, wm_1256, ⟨by decide +kernel, by decide +kernel⟩, by decide +kernel, by decide⟩
theorem mv_RX12_199 : sr_MV RX12 199 yX12_fits cX12_fits 4 (some .boolean) 2 12 := ⟨⟨(RX12, TX12, 32), rfl, rfl⟩, wm_1269, wm_1271, pv_X12_fits, wm_15, wm_1272, ⟨by decide +kernel, by decide +kernel⟩, by decide +kernel, by decide⟩
theorem mv_RX12_202 : sr_MV RX12 202 yX12_moves cX12_moves 4 none 2 12 := ⟨⟨(RX12, TX12, 32), rfl, rfl⟩, wm_1234, wm_1236, pv_X12_moves, wm_15, wm_1237, ⟨by decide +kernel, by decide +kernel⟩, by decide +kernel, by decide⟩
theorem mv_RX12_208 : sr_MV RX12 208 yX12_isBlown cX12_isBlown 3 none 1 12 := ⟨⟨(RX12, TX12, 32), rfl, rfl⟩, wm_1249, wm_1251, pv_X12_isBlown, wm_15, wm_1252, ⟨by decide +kernel, by decide +kernel⟩, by decide +kernel, by decide⟩
theorem mv_RX12_212 : sr_MV RX12 212 yX12_grows cX12_grows 3 none 2 12 := ⟨⟨(RX12, TX12, 32), rfl, rfl⟩, wm_1257, wm_1259, pv_X12_grows, wm_15, wm_1260, ⟨by decide +kernel, by decide +kernel⟩, by decide +kernel, by decide⟩
theorem mv_RX12_215 : sr_MV RX12 215 yX12_meet cX12_meet 7 none 1 12 := ⟨⟨(RX12, TX12, 32), rfl, rfl⟩, wm_1261, wm_1263, pv_X12_meet, wm_15, wm_1264, ⟨by decide +kernel, by decide +kernel⟩, by decide +kernel, by decide⟩
theorem mv_RX12_218 : sr_MV RX12 218 yX12_falls cX12_falls 4 none 2 12 := ⟨⟨(RX12, TX12, 32), rfl, rfl⟩, wm_1265, wm_1267, pv_X12_falls, wm_15, wm_1268, ⟨by decide +kernel, by decide +kernel⟩, by decide +kernel, by decide⟩
theorem mv_RX12_221 : sr_MV RX12 221 yX12_keeps cX12_keeps 3 none 1 12 := ⟨⟨(RX12, TX12, 32), rfl, rfl⟩, wm_1273, wm_1275, pv_X12_keeps, wm_15, wm_1276, ⟨by decide +kernel, by decide +kernel⟩, by decide +kernel, by decide⟩
theorem mv_RX12_224 : sr_MV RX12 224 yX12_steps cX12_steps 3 none 1 12 := ⟨⟨(RX12, TX12, 32), rfl, rfl⟩, wm_1230, wm_1232, pv_X12_steps, wm_15, wm_1233, ⟨by decide +kernel, by decide +kernel⟩, by decide +kernel, by decide⟩
theorem mv_RX12_227 : sr_MV RX12 227 yX12_lives cX12_lives 2 none 0 12 := ⟨⟨(RX12, TX12, 32), rfl, rfl⟩, wm_1226, wm_1228, pv_X12_lives, wm_15, wm_1229, ⟨by decide +kernel, by decide +kernel⟩, by decide +kernel, by decide⟩
theorem mv_RX12_230 : sr_MV RX12 230 yX12_find cX12_find 1 none 0 12 := ⟨⟨(RX12, TX12, 32), rfl, rfl⟩, wm_1222, wm_1224, pv_X12_find, wm_15, wm_1225, ⟨by decide +kernel, by decide +kernel⟩, by decide +kernel, by decide⟩
theorem mv_RX12_233 : sr_MV RX12 233 yX12_whomOf cX12_whomOf 2 (some .int) 1 12 := ⟨⟨(RX12, TX12, 32), rfl, rfl⟩, wm_1285, wm_1287, pv_X12_whomOf, wm_15, wm_1288, ⟨by decide +kernel, by decide +kernel⟩, by decide +kernel, by decide⟩
theorem mv_RX12_236 : sr_MV RX12 236 yX12_boundOf cX12_boundOf 3 (some .int) 2 12 := ⟨⟨(RX12, TX12, 32), rfl, rfl⟩, wm_1281, wm_1283, pv_X12_boundOf, wm_15, wm_1284, ⟨by decide +kernel, by decide +kernel⟩, by decide +kernel, by decide⟩
theorem mv_RX12_239 : sr_MV RX12 239 yX12_upkeep cX12_upkeep 2 (some .int) 1 12 := ⟨⟨(RX12, TX12, 32), rfl, rfl⟩, wm_1300, wm_1302, pv_X12_upkeep, wm_15, wm_1303, ⟨by decide +kernel, by decide +kernel⟩, by decide +kernel, by decide⟩
theorem ms_RX12_242 : sr_MS RX12 242 yX12_isTwo cX12_isTwo 1 (some .boolean) 1 := ⟨wm_1293, wm_1294, wm_15, wm_1295, ⟨by decide +kernel, by decide +kernel⟩, by decide +kernel, by decide⟩
theorem mv_RX12_245 : sr_MV RX12 245 yX12_wedOf cX12_wedOf 6 (some .int) 2 12 := ⟨⟨(RX12, TX12, 32), rfl, rfl⟩, wm_1296, wm_1298, pv_X12_wedOf, wm_15, wm_1299, ⟨by decide +kernel, by decide +kernel⟩, by decide +kernel, by decide⟩
theorem mv_RX12_248 : sr_MV RX12 248 yX12_missedNow cX12_missedNow 3 (some .int) 0 12 := ⟨⟨(RX12, TX12, 32), rfl, rfl⟩, wm_1312, wm_1314, pv_X12_missedNow, wm_15, wm_1315, ⟨by decide +kernel, by decide +kernel⟩, by decide +kernel, by decide⟩
theorem ms_RX12_251 : sr_MS RX12 251 yX12_ones cX12_ones 3 (some .int) 1 := ⟨wm_1324, wm_1325, wm_15, wm_1326, ⟨by decide +kernel, by decide +kernel⟩, by decide +kernel, by decide⟩
theorem ms_RX12_254 : sr_MS RX12 254 yX12_greater cX12_greater 2 (some .int) 2 := ⟨wm_1327, wm_1328, wm_15, wm_1329, ⟨by decide +kernel, by decide +kernel⟩, by decide +kernel, by decide⟩
theorem mv_RX12_257 : sr_MV RX12 257 yX12_richestNow cX12_richestNow 5 (some .int) 0 12 := ⟨⟨(RX12, TX12, 32), rfl, rfl⟩, wm_1320, wm_1322, pv_X12_richestNow, wm_15, wm_1323, ⟨by decide +kernel, by decide +kernel⟩, by decide +kernel, by decide⟩
theorem mv_RX12_260 : sr_MV RX12 260 yX12_lonelyNow cX12_lonelyNow 4 (some .int) 0 12 := ⟨⟨(RX12, TX12, 32), rfl, rfl⟩, wm_1334, wm_1336, pv_X12_lonelyNow, wm_15, wm_1337, ⟨by decide +kernel, by decide +kernel⟩, by decide +kernel, by decide⟩
theorem mv_RX12_263 : sr_MV RX12 263 yX12_breathOf cX12_breathOf 6 (some .int) 2 12 := ⟨⟨(RX12, TX12, 32), rfl, rfl⟩, wm_1342, wm_1344, pv_X12_breathOf, wm_15, wm_1345, ⟨by decide +kernel, by decide +kernel⟩, by decide +kernel, by decide⟩
theorem mv_RX12_266 : sr_MV RX12 266 yX12_allBound cX12_allBound 3 (some .int) 0 12 := ⟨⟨(RX12, TX12, 32), rfl, rfl⟩, wm_1354, wm_1356, pv_X12_allBound, wm_15, wm_1357, ⟨by decide +kernel, by decide +kernel⟩, by decide +kernel, by decide⟩
theorem mv_RX12_269 : sr_MV RX12 269 yX12_aimOf cX12_aimOf 9 (some .int) 2 12 := ⟨⟨(RX12, TX12, 32), rfl, rfl⟩, wm_1350, wm_1352, pv_X12_aimOf, wm_15, wm_1353, ⟨by decide +kernel, by decide +kernel⟩, by decide +kernel, by decide⟩
theorem mv_RX12_272 : sr_MV RX12 272 yX12_standOf cX12_standOf 5 (some .int) 1 12 := ⟨⟨(RX12, TX12, 32), rfl, rfl⟩, wm_1362, wm_1364, pv_X12_standOf, wm_15, wm_1365, ⟨by decide +kernel, by decide +kernel⟩, by decide +kernel, by decide⟩
theorem mv_RX12_275 : sr_MV RX12 275 yX12_isSpared cX12_isSpared 3 (some .boolean) 2 12 := ⟨⟨(RX12, TX12, 32), rfl, rfl⟩, wm_1375, wm_1377, pv_X12_isSpared, wm_15, wm_1378, ⟨by decide +kernel, by decide +kernel⟩, by decide +kernel, by decide⟩
theorem mv_RX12_280 : sr_MV RX12 280 yX12_hushOf cX12_hushOf 5 (some .int) 2 12 := ⟨⟨(RX12, TX12, 32), rfl, rfl⟩, wm_1371, wm_1373, pv_X12_hushOf, wm_15, wm_1374, ⟨by decide +kernel, by decide +kernel⟩, by decide +kernel, by decide⟩
theorem mv_RX12_283 : sr_MV RX12 283 yX12_calmBy cX12_calmBy 6 (some .int) 1 12 := ⟨⟨(RX12, TX12, 32), rfl, rfl⟩, wm_1383, wm_1385, pv_X12_calmBy, wm_15, wm_1386, ⟨by decide +kernel, by decide +kernel⟩, by decide +kernel, by decide⟩
theorem mv_RX12_286 : sr_MV RX12 286 yX12_costOf cX12_costOf 3 (some .int) 2 12 := ⟨⟨(RX12, TX12, 32), rfl, rfl⟩, wm_1396, wm_1398, pv_X12_costOf, wm_15, wm_1399, ⟨by decide +kernel, by decide +kernel⟩, by decide +kernel, by decide⟩
theorem mv_RX12_291 : sr_MV RX12 291 yX12_freeOf cX12_freeOf 8 (some .int) 3 12 := ⟨⟨(RX12, TX12, 32), rfl, rfl⟩, wm_1392, wm_1394, pv_X12_freeOf, wm_15, wm_1395, ⟨by decide +kernel, by decide +kernel⟩, by decide +kernel, by decide⟩
theorem mv_RX12_299 : sr_MV RX12 299 yX12_isSeen cX12_isSeen 4 (some .boolean) 0 12 := ⟨⟨(RX12, TX12, 32), rfl, rfl⟩, wm_1417, wm_1419, pv_X12_isSeen, wm_15, wm_1420, ⟨by decide +kernel, by decide +kernel⟩, by decide +kernel, by decide⟩
theorem mv_RX12_303 : sr_MV RX12 303 yX12_neverNow cX12_neverNow 3 (some .int) 0 12 := ⟨⟨(RX12, TX12, 32), rfl, rfl⟩, wm_1413, wm_1415, pv_X12_neverNow, wm_15, wm_1416, ⟨by decide +kernel, by decide +kernel⟩, by decide +kernel, by decide⟩
theorem mv_RX12_306 : sr_MV RX12 306 yX12_whenceOf cX12_whenceOf 8 (some .int) 2 12 := ⟨⟨(RX12, TX12, 32), rfl, rfl⟩, wm_1425, wm_1427, pv_X12_whenceOf, wm_15, wm_1428, ⟨by decide +kernel, by decide +kernel⟩, by decide +kernel, by decide⟩
theorem mv_RX12_309 : sr_MV RX12 309 yX12_pacesNow cX12_pacesNow 4 (some .int) 0 12 := ⟨⟨(RX12, TX12, 32), rfl, rfl⟩, wm_1433, wm_1435, pv_X12_pacesNow, wm_15, wm_1436, ⟨by decide +kernel, by decide +kernel⟩, by decide +kernel, by decide⟩
theorem mv_RX12_312 : sr_MV RX12 312 yX12_askNow cX12_askNow 7 (some .int) 0 12 := ⟨⟨(RX12, TX12, 32), rfl, rfl⟩, wm_1441, wm_1443, pv_X12_askNow, wm_15, wm_1444, ⟨by decide +kernel, by decide +kernel⟩, by decide +kernel, by decide⟩
theorem ms_RX12_315 : sr_MS RX12 315 yX12_part cX12_part 11 (some .long) 3 := ⟨wm_1454, wm_1455, wm_15, wm_1456, ⟨by decide +kernel, by decide +kernel⟩, by decide +kernel, by decide⟩
theorem mv_RX12_321 : sr_MV RX12 321 yX12_stillOf cX12_stillOf 12 (some .long) 5 12 := ⟨⟨(RX12, TX12, 32), rfl, rfl⟩, wm_1450, wm_1452, pv_X12_stillOf, wm_15, wm_1453, ⟨by decide +kernel, by decide +kernel⟩, by decide +kernel, by decide⟩
theorem ms_RX12_325 : sr_MS RX12 325 yX12_no cX12_no 1 (some .long) 1 := ⟨wm_1457, wm_1458, wm_15, wm_1459, ⟨by decide +kernel, by decide +kernel⟩, by decide +kernel, by decide⟩
theorem mv_RX12_333 : sr_MV RX12 333 yX12_lot cX12_lot 2 (some .int) 1 12 := ⟨⟨(RX12, TX12, 32), rfl, rfl⟩, wm_1470, wm_1472, pv_X12_lot, wm_15, wm_1473, ⟨by decide +kernel, by decide +kernel⟩, by decide +kernel, by decide⟩
theorem mv_RX12_338 : sr_MV RX12 338 yX12_eveningOf cX12_eveningOf 8 (some .int) 3 12 := ⟨⟨(RX12, TX12, 32), rfl, rfl⟩, wm_1466, wm_1468, pv_X12_eveningOf, wm_15, wm_1469, ⟨by decide +kernel, by decide +kernel⟩, by decide +kernel, by decide⟩
theorem ms_RX12_341 : sr_MS RX12 341 yX12_lesser cX12_lesser 2 (some .int) 2 := ⟨wm_1479, wm_1480, wm_15, wm_1481, ⟨by decide +kernel, by decide +kernel⟩, by decide +kernel, by decide⟩
theorem mv_RX12_346 : sr_MV RX12 346 yX12_tellsStep cX12_tellsStep 8 (some .long) 3 12 := ⟨⟨(RX12, TX12, 32), rfl, rfl⟩, wm_1497, wm_1499, pv_X12_tellsStep, wm_15, wm_1500, ⟨by decide +kernel, by decide +kernel⟩, by decide +kernel, by decide⟩
theorem mv_RX12_352 : sr_MV RX12 352 yX12_count cX12_count 2 (some .int) 1 12 := ⟨⟨(RX12, TX12, 32), rfl, rfl⟩, wm_1492, wm_1483, wm_1484, wm_15, wm_1485, ⟨by decide +kernel, by decide +kernel⟩, by decide +kernel, by decide⟩
theorem mv_RX12_355 : sr_MV RX12 355 yX12_tellsRing cX12_tellsRing 7 (some .long) 2 12 := ⟨⟨(RX12, TX12, 32), rfl, rfl⟩, wm_1493, wm_1495, pv_X12_tellsRing, wm_15, wm_1496, ⟨by decide +kernel, by decide +kernel⟩, by decide +kernel, by decide⟩
theorem mv_RX12_359 : sr_MV RX12 359 yX12_tellsThing cX12_tellsThing 7 (some .long) 2 12 := ⟨⟨(RX12, TX12, 32), rfl, rfl⟩, wm_1501, wm_1503, pv_X12_tellsThing, wm_15, wm_1504, ⟨by decide +kernel, by decide +kernel⟩, by decide +kernel, by decide⟩
theorem kc_RX11_286 : Cond.constantLong RX11 286 (Int64.ofInt (-9223372036854775806)) ∈ gW := wm_829
theorem kc_RX11_317 : Cond.constant RX11 317 (Int32.ofInt (-2147483648)) ∈ gW := wm_918
theorem kc_RX11_341 : Cond.constantLong RX11 341 (Int64.ofInt (17)) ∈ gW := wm_941
theorem kc_RX11_373 : Cond.constantLong RX11 373 (Int64.ofInt (-2)) ∈ gW := wm_955
theorem kc_RX11_387 : Cond.constantLong RX11 387 (Int64.ofInt (31)) ∈ gW := wm_946
theorem kc_RX0_130 : Cond.constant RX0 130 (Int32.ofInt (1103515245)) ∈ gW := wm_880
theorem kc_RX12_74 : Cond.constantLong RX12 74 (Int64.ofInt (-9223372036854775808)) ∈ gW := wm_1460
theorem kc_RX12_83 : Cond.constantLong RX12 83 (Int64.ofInt (3)) ∈ gW := wm_1082
theorem kc_RX12_89 : Cond.constantLong RX12 89 (Int64.ofInt (2)) ∈ gW := wm_1086
theorem kc_RX12_103 : Cond.constant RX12 103 (Int32.ofInt (-2147483648)) ∈ gW := wm_1110
theorem kc_RX12_107 : Cond.constantLong RX12 107 (Int64.ofInt (255)) ∈ gW := wm_1122
theorem kc_RX12_118 : Cond.constantLong RX12 118 (Int64.ofInt (48)) ∈ gW := wm_1154
theorem kc_RX12_120 : Cond.constantLong RX12 120 (Int64.ofInt (51)) ∈ gW := wm_1155
theorem kc_RX12_122 : Cond.constantLong RX12 122 (Int64.ofInt (57)) ∈ gW := wm_1156
theorem kc_RX12_124 : Cond.constantLong RX12 124 (Int64.ofInt (49)) ∈ gW := wm_1157
theorem kc_RX12_148 : Cond.constantLong RX12 148 (Int64.ofInt (19)) ∈ gW := wm_1186
theorem kc_RX12_150 : Cond.constantLong RX12 150 (Int64.ofInt (35)) ∈ gW := wm_1170
theorem kc_RX12_158 : Cond.constantLong RX12 158 (Int64.ofInt (4)) ∈ gW := wm_1191
theorem kc_RX12_163 : Cond.constantLong RX12 163 (Int64.ofInt (9)) ∈ gW := wm_1196
theorem kc_RX12_278 : Cond.constantLong RX12 278 (Int64.ofInt (-1)) ∈ gW := wm_1370
theorem kc_RX12_289 : Cond.constantLong RX12 289 (Int64.ofInt (99)) ∈ gW := wm_1391
theorem kc_RX12_294 : Cond.constantLong RX12 294 (Int64.ofInt (7)) ∈ gW := wm_1404
theorem kc_RX12_319 : Cond.constantLong RX12 319 (Int64.ofInt (16)) ∈ gW := wm_1449
theorem kc_RX12_329 : Cond.constant RX12 329 (Int32.ofInt (1103515245)) ∈ gW := wm_1474
theorem kc_RX12_336 : Cond.constantLong RX12 336 (Int64.ofInt (8)) ∈ gW := wm_1465
theorem kc_RX12_344 : Cond.constantLong RX12 344 (Int64.ofInt (31)) ∈ gW := wm_1491
theorem kc_RX12_350 : Cond.constantLong RX12 350 (Int64.ofInt (17)) ∈ gW := wm_1490
theorem kc_RJ6_265 : Cond.constant RJ6 265 (Int32.ofInt (1431655765)) ∈ gW := wm_662
theorem kc_RJ6_266 : Cond.constant RJ6 266 (Int32.ofInt (858993459)) ∈ gW := wm_663
theorem kc_RJ6_267 : Cond.constant RJ6 267 (Int32.ofInt (252645135)) ∈ gW := wm_664
theorem kc_RJ13_314 : Cond.constantLong RJ13 314 (Int64.ofInt (6148914691236517205)) ∈ gW := wm_795
theorem kc_RJ13_316 : Cond.constantLong RJ13 316 (Int64.ofInt (3689348814741910323)) ∈ gW := wm_796
theorem kc_RJ13_318 : Cond.constantLong RJ13 318 (Int64.ofInt (1085102592571150095)) ∈ gW := wm_797
theorem ac_RX4_55 : Cond.methodLink RX4 55 arraycopyName ∈ gW := wm_681
theorem ac_RX11_327 : Cond.methodLink RX11 327 arraycopyName ∈ gW := wm_927
theorem ac_n : Cond.native arraycopyName ∈ gW := wm_683
theorem ac_s : Cond.static arraycopyName ∈ gW := wm_682
theorem ac_i : Cond.initialized "java/lang/System" ∈ gW := wm_17
theorem ds_370 : Cond.fieldLink RX11 370 "SmokeRings" "DIGEST_STEPS" "[I" ∈ gW := wm_953
theorem kd_0 : kd 0 = 21 := rfl
theorem kd_1 : kd 1 = 4 := rfl
theorem kd_2 : kd 2 = 1 := rfl
theorem kd_3 : kd 3 = 20 := rfl
theorem kd_4 : kd 4 = 3 := rfl
theorem kd_5 : kd 5 = 1 := rfl
theorem kd_6 : kd 6 = 14 := rfl
theorem kd_7 : kd 7 = 1 := rfl
theorem kd_8 : kd 8 = 1 := rfl
theorem kd_9 : kd 9 = 1 := rfl
theorem kd_10 : kd 10 = 1 := rfl
theorem kd_11 : kd 11 = 1 := rfl
theorem kd_12 : kd 12 = 1 := rfl
theorem kd_13 : kd 13 = 1 := rfl
theorem kd_14 : kd 14 = 1 := rfl
theorem kd_15 : kd 15 = 1 := rfl
theorem kd_16 : kd 16 = 16 := rfl
theorem kd_17 : kd 17 = 1 := rfl
theorem kd_18 : kd 18 = 1 := rfl
theorem kd_19 : kd 19 = 1 := rfl
theorem kd_20 : kd 20 = 1 := rfl
theorem kd_21 : kd 21 = 1 := rfl
theorem kd_22 : kd 22 = 1 := rfl
theorem kd_23 : kd 23 = 1 := rfl
theorem kd_24 : kd 24 = 11 := rfl
theorem kd_25 : kd 25 = 1 := rfl
theorem kd_26 : kd 26 = 18 := rfl
theorem kd_27 : kd 27 = 1 := rfl
theorem kd_28 : kd 28 = 1 := rfl
theorem kd_29 : kd 29 = 5 := rfl
theorem kd_30 : kd 30 = 19 := rfl
theorem kd_31 : kd 31 = 1 := rfl
theorem kd_32 : kd 32 = 19 := rfl
theorem kd_33 : kd 33 = 1 := rfl
theorem kd_34 : kd 34 = 19 := rfl
theorem kd_35 : kd 35 = 1 := rfl
theorem kd_36 : kd 36 = 17 := rfl
theorem kd_37 : kd 37 = 1 := rfl
theorem kd_38 : kd 38 = 17 := rfl
theorem kd_39 : kd 39 = 1 := rfl
theorem kd_40 : kd 40 = 17 := rfl
theorem kd_41 : kd 41 = 1 := rfl
theorem kd_42 : kd 42 = 17 := rfl
theorem kd_43 : kd 43 = 1 := rfl
theorem kd_44 : kd 44 = 14 := rfl
theorem kd_45 : kd 45 = 1 := rfl
theorem kd_46 : kd 46 = 1 := rfl
theorem kd_47 : kd 47 = 1 := rfl
theorem kd_48 : kd 48 = 1 := rfl
theorem kd_49 : kd 49 = 1 := rfl
theorem kd_50 : kd 50 = 1 := rfl
theorem kd_51 : kd 51 = 1 := rfl
theorem kd_52 : kd 52 = 1 := rfl
theorem kd_53 : kd 53 = 1 := rfl
theorem kd_54 : kd 54 = 16 := rfl
theorem kd_55 : kd 55 = 1 := rfl
theorem kd_56 : kd 56 = 1 := rfl
theorem kd_57 : kd 57 = 1 := rfl
theorem kd_58 : kd 58 = 1 := rfl
theorem kd_59 : kd 59 = 1 := rfl
theorem kd_60 : kd 60 = 1 := rfl
theorem kd_61 : kd 61 = 1 := rfl
theorem kd_62 : kd 62 = 15 := rfl
theorem kd_63 : kd 63 = 12 := rfl
theorem kd_64 : kd 64 = 13 := rfl
theorem kd_65 : kd 65 = 1 := rfl
theorem kd_66 : kd 66 = 10 := rfl
theorem kd_67 : kd 67 = 1 := rfl
theorem kd_68 : kd 68 = 2 := rfl
theorem kd_69 : kd 69 = 22 := rfl
theorem kd_70 : kd 70 = 1 := rfl
theorem kd_71 : kd 71 = 1 := rfl
theorem kd_72 : kd 72 = 1 := rfl
theorem kd_73 : kd 73 = 1 := rfl
theorem kd_74 : kd 74 = 1 := rfl
theorem kd_75 : kd 75 = 1 := rfl
theorem kd_76 : kd 76 = 1 := rfl
theorem kd_77 : kd 77 = 1 := rfl
theorem kd_78 : kd 78 = 1 := rfl
theorem kd_79 : kd 79 = 1 := rfl
theorem kd_80 : kd 80 = 1 := rfl
theorem kd_81 : kd 81 = 1 := rfl
theorem kd_82 : kd 82 = 1 := rfl
theorem kd_83 : kd 83 = 1 := rfl
theorem kd_84 : kd 84 = 1 := rfl
theorem kd_85 : kd 85 = 1 := rfl
theorem kd_86 : kd 86 = 1 := rfl
theorem kd_87 : kd 87 = 1 := rfl
theorem kd_88 : kd 88 = 1 := rfl
theorem kd_89 : kd 89 = 1 := rfl
theorem rf_0_0 : rfn 0 0 = 1 := rfl
theorem rf_0_1 : rfn 0 1 = 2 := rfl
theorem rf_0_2 : rfn 0 2 = 3 := rfl
theorem rf_0_3 : rfn 0 3 = 6 := rfl
theorem rf_0_4 : rfn 0 4 = 16 := rfl
theorem rf_0_5 : rfn 0 5 = 24 := rfl
theorem rf_0_6 : rfn 0 6 = 26 := rfl
theorem rf_0_7 : rfn 0 7 = 62 := rfl
theorem rf_0_8 : rfn 0 8 = 64 := rfl
theorem rf_0_9 : rfn 0 9 = 66 := rfl
theorem rf_0_10 : rfn 0 10 = 29 := rfl
theorem al_1 : al 1 = 3 := rfl
theorem al_2 : al 2 = 3 := rfl
theorem rf_3_1 : rfn 3 1 = 4 := rfl
theorem rf_3_2 : rfn 3 2 = 5 := rfl
theorem al_4 : al 4 = 36 := rfl
theorem al_5 : al 5 = 144 := rfl
theorem rf_6_1 : rfn 6 1 = 7 := rfl
theorem rf_6_2 : rfn 6 2 = 8 := rfl
theorem rf_6_3 : rfn 6 3 = 9 := rfl
theorem rf_6_4 : rfn 6 4 = 10 := rfl
theorem rf_6_5 : rfn 6 5 = 11 := rfl
theorem rf_6_7 : rfn 6 7 = 12 := rfl
theorem rf_6_8 : rfn 6 8 = 13 := rfl
theorem rf_6_9 : rfn 6 9 = 14 := rfl
theorem rf_6_10 : rfn 6 10 = 15 := rfl
theorem al_7 : al 7 = 8 := rfl
theorem al_8 : al 8 = 8 := rfl
theorem al_9 : al 9 = 8 := rfl
theorem al_10 : al 10 = 8 := rfl
theorem al_11 : al 11 = 8 := rfl
theorem al_12 : al 12 = 8 := rfl
theorem al_13 : al 13 = 8 := rfl
theorem al_14 : al 14 = 8 := rfl
theorem al_15 : al 15 = 20 := rfl
theorem rf_16_0 : rfn 16 0 = 3 := rfl
theorem rf_16_1 : rfn 16 1 = 17 := rfl
theorem rf_16_2 : rfn 16 2 = 18 := rfl
theorem rf_16_3 : rfn 16 3 = 19 := rfl
theorem rf_16_4 : rfn 16 4 = 20 := rfl
theorem rf_16_5 : rfn 16 5 = 21 := rfl
theorem rf_16_6 : rfn 16 6 = 22 := rfl
theorem rf_16_7 : rfn 16 7 = 23 := rfl
theorem al_17 : al 17 = 8 := rfl
theorem al_18 : al 18 = 8 := rfl
theorem al_19 : al 19 = 8 := rfl
theorem al_20 : al 20 = 8 := rfl
theorem al_21 : al 21 = 8 := rfl
theorem al_22 : al 22 = 8 := rfl
theorem al_23 : al 23 = 8 := rfl
theorem rf_24_0 : rfn 24 0 = 25 := rfl
theorem al_25 : al 25 = 640 := rfl
theorem rf_26_0 : rfn 26 0 = 27 := rfl
theorem rf_26_1 : rfn 26 1 = 28 := rfl
theorem al_27 : al 27 = 8 := rfl
theorem al_28 : al 28 = 8 := rfl
theorem al_29 : al 29 = 4 := rfl
theorem rf_30_0 : rfn 30 0 = 31 := rfl
theorem al_31 : al 31 = 41 := rfl
theorem rf_32_0 : rfn 32 0 = 33 := rfl
theorem al_33 : al 33 = 39 := rfl
theorem rf_34_0 : rfn 34 0 = 35 := rfl
theorem al_35 : al 35 = 20 := rfl
theorem rf_36_2 : rfn 36 2 = 37 := rfl
theorem al_37 : al 37 = 60 := rfl
theorem rf_38_2 : rfn 38 2 = 39 := rfl
theorem al_39 : al 39 = 60 := rfl
theorem rf_40_2 : rfn 40 2 = 41 := rfl
theorem al_41 : al 41 = 60 := rfl
theorem rf_42_2 : rfn 42 2 = 43 := rfl
theorem al_43 : al 43 = 60 := rfl
theorem rf_44_1 : rfn 44 1 = 45 := rfl
theorem rf_44_2 : rfn 44 2 = 46 := rfl
theorem rf_44_3 : rfn 44 3 = 47 := rfl
theorem rf_44_4 : rfn 44 4 = 48 := rfl
theorem rf_44_5 : rfn 44 5 = 49 := rfl
theorem rf_44_7 : rfn 44 7 = 50 := rfl
theorem rf_44_8 : rfn 44 8 = 51 := rfl
theorem rf_44_9 : rfn 44 9 = 52 := rfl
theorem rf_44_10 : rfn 44 10 = 53 := rfl
theorem al_45 : al 45 = 8 := rfl
theorem al_46 : al 46 = 8 := rfl
theorem al_47 : al 47 = 8 := rfl
theorem al_48 : al 48 = 8 := rfl
theorem al_49 : al 49 = 8 := rfl
theorem al_50 : al 50 = 8 := rfl
theorem al_51 : al 51 = 8 := rfl
theorem al_52 : al 52 = 8 := rfl
theorem al_53 : al 53 = 20 := rfl
theorem rf_54_0 : rfn 54 0 = 3 := rfl
theorem rf_54_1 : rfn 54 1 = 55 := rfl
theorem rf_54_2 : rfn 54 2 = 56 := rfl
theorem rf_54_3 : rfn 54 3 = 57 := rfl
theorem rf_54_4 : rfn 54 4 = 58 := rfl
theorem rf_54_5 : rfn 54 5 = 59 := rfl
theorem rf_54_6 : rfn 54 6 = 60 := rfl
theorem rf_54_7 : rfn 54 7 = 61 := rfl
theorem al_55 : al 55 = 8 := rfl
theorem al_56 : al 56 = 8 := rfl
theorem al_57 : al 57 = 8 := rfl
theorem al_58 : al 58 = 8 := rfl
theorem al_59 : al 59 = 8 := rfl
theorem al_60 : al 60 = 8 := rfl
theorem al_61 : al 61 = 8 := rfl
theorem rf_62_0 : rfn 62 0 = 3 := rfl
theorem rf_62_1 : rfn 62 1 = 6 := rfl
theorem rf_62_2 : rfn 62 2 = 44 := rfl
theorem rf_62_3 : rfn 62 3 = 54 := rfl
theorem rf_62_9 : rfn 62 9 = 63 := rfl
theorem rf_64_0 : rfn 64 0 = 3 := rfl
theorem rf_64_1 : rfn 64 1 = 6 := rfl
theorem rf_64_2 : rfn 64 2 = 44 := rfl
theorem rf_64_3 : rfn 64 3 = 54 := rfl
theorem rf_64_4 : rfn 64 4 = 26 := rfl
theorem rf_64_6 : rfn 64 6 = 65 := rfl
theorem al_65 : al 65 = 40 := rfl
theorem rf_66_0 : rfn 66 0 = 3 := rfl
theorem rf_66_1 : rfn 66 1 = 6 := rfl
theorem rf_66_2 : rfn 66 2 = 44 := rfl
theorem rf_66_3 : rfn 66 3 = 54 := rfl
theorem rf_66_4 : rfn 66 4 = 67 := rfl
theorem rf_66_6 : rfn 66 6 = 68 := rfl
theorem al_67 : al 67 = 10 := rfl
theorem al_68 : al 68 = 32 := rfl
theorem rf_69_0 : rfn 69 0 = 70 := rfl
theorem rf_69_1 : rfn 69 1 = 71 := rfl
theorem rf_69_2 : rfn 69 2 = 72 := rfl
theorem rf_69_3 : rfn 69 3 = 73 := rfl
theorem rf_69_5 : rfn 69 5 = 74 := rfl
theorem rf_69_6 : rfn 69 6 = 75 := rfl
theorem rf_69_9 : rfn 69 9 = 76 := rfl
theorem rf_69_11 : rfn 69 11 = 77 := rfl
theorem rf_69_12 : rfn 69 12 = 78 := rfl
theorem rf_69_15 : rfn 69 15 = 79 := rfl
theorem rf_69_16 : rfn 69 16 = 80 := rfl
theorem rf_69_17 : rfn 69 17 = 81 := rfl
theorem rf_69_18 : rfn 69 18 = 82 := rfl
theorem rf_69_19 : rfn 69 19 = 83 := rfl
theorem rf_69_20 : rfn 69 20 = 84 := rfl
theorem rf_69_21 : rfn 69 21 = 85 := rfl
theorem rf_69_22 : rfn 69 22 = 86 := rfl
theorem rf_69_28 : rfn 69 28 = 87 := rfl
theorem rf_69_29 : rfn 69 29 = 88 := rfl
theorem rf_69_31 : rfn 69 31 = 89 := rfl
theorem al_70 : al 70 = 4 := rfl
theorem al_71 : al 71 = 4 := rfl
theorem al_72 : al 72 = 240 := rfl
theorem al_73 : al 73 = 60 := rfl
theorem al_74 : al 74 = 126 := rfl
theorem al_75 : al 75 = 3 := rfl
theorem al_76 : al 76 = 36 := rfl
theorem al_77 : al 77 = 24 := rfl
theorem al_78 : al 78 = 20 := rfl
theorem al_79 : al 79 = 40 := rfl
theorem al_80 : al 80 = 8 := rfl
theorem al_81 : al 81 = 8 := rfl
theorem al_82 : al 82 = 8 := rfl
theorem al_83 : al 83 = 8 := rfl
theorem al_84 : al 84 = 640 := rfl
theorem al_85 : al 85 = 8 := rfl
theorem al_86 : al 86 = 8 := rfl
theorem al_87 : al 87 = 16 := rfl
theorem al_88 : al 88 = 40 := rfl
theorem al_89 : al 89 = 40 := rfl
theorem kb_4 {o : Nat} (h : kd o = 14) : o < NP := kd_lt h (by decide)
theorem ly_4_1 {o : Nat} (h : kd o = 14) : rfn o 1 = o + 1 := by
  have h2 : ∀ o, o < NP → kd o = 14 → rfn o 1 = o + 1 := by decide +kernel
  exact h2 o (kb_4 h) h
theorem lk_4_1 {o : Nat} (h : kd o = 14) : kd (o + 1) = 1 := by
  have h2 : ∀ o, o < NP → kd o = 14 → kd (o + 1) = 1 := by decide +kernel
  exact h2 o (kb_4 h) h
theorem la_4_1 {o : Nat} (h : kd o = 14) : al (o + 1) = 8 := by
  have h2 : ∀ o, o < NP → kd o = 14 → al (o + 1) = 8 := by decide +kernel
  exact h2 o (kb_4 h) h
theorem ly_4_2 {o : Nat} (h : kd o = 14) : rfn o 2 = o + 2 := by
  have h2 : ∀ o, o < NP → kd o = 14 → rfn o 2 = o + 2 := by decide +kernel
  exact h2 o (kb_4 h) h
theorem lk_4_2 {o : Nat} (h : kd o = 14) : kd (o + 2) = 1 := by
  have h2 : ∀ o, o < NP → kd o = 14 → kd (o + 2) = 1 := by decide +kernel
  exact h2 o (kb_4 h) h
theorem la_4_2 {o : Nat} (h : kd o = 14) : al (o + 2) = 8 := by
  have h2 : ∀ o, o < NP → kd o = 14 → al (o + 2) = 8 := by decide +kernel
  exact h2 o (kb_4 h) h
theorem ly_4_3 {o : Nat} (h : kd o = 14) : rfn o 3 = o + 3 := by
  have h2 : ∀ o, o < NP → kd o = 14 → rfn o 3 = o + 3 := by decide +kernel
  exact h2 o (kb_4 h) h
theorem lk_4_3 {o : Nat} (h : kd o = 14) : kd (o + 3) = 1 := by
  have h2 : ∀ o, o < NP → kd o = 14 → kd (o + 3) = 1 := by decide +kernel
  exact h2 o (kb_4 h) h
theorem la_4_3 {o : Nat} (h : kd o = 14) : al (o + 3) = 8 := by
  have h2 : ∀ o, o < NP → kd o = 14 → al (o + 3) = 8 := by decide +kernel
  exact h2 o (kb_4 h) h
theorem ly_4_4 {o : Nat} (h : kd o = 14) : rfn o 4 = o + 4 := by
  have h2 : ∀ o, o < NP → kd o = 14 → rfn o 4 = o + 4 := by decide +kernel
  exact h2 o (kb_4 h) h
theorem lk_4_4 {o : Nat} (h : kd o = 14) : kd (o + 4) = 1 := by
  have h2 : ∀ o, o < NP → kd o = 14 → kd (o + 4) = 1 := by decide +kernel
  exact h2 o (kb_4 h) h
theorem la_4_4 {o : Nat} (h : kd o = 14) : al (o + 4) = 8 := by
  have h2 : ∀ o, o < NP → kd o = 14 → al (o + 4) = 8 := by decide +kernel
  exact h2 o (kb_4 h) h
theorem ly_4_5 {o : Nat} (h : kd o = 14) : rfn o 5 = o + 5 := by
  have h2 : ∀ o, o < NP → kd o = 14 → rfn o 5 = o + 5 := by decide +kernel
  exact h2 o (kb_4 h) h
theorem lk_4_5 {o : Nat} (h : kd o = 14) : kd (o + 5) = 1 := by
  have h2 : ∀ o, o < NP → kd o = 14 → kd (o + 5) = 1 := by decide +kernel
  exact h2 o (kb_4 h) h
theorem la_4_5 {o : Nat} (h : kd o = 14) : al (o + 5) = 8 := by
  have h2 : ∀ o, o < NP → kd o = 14 → al (o + 5) = 8 := by decide +kernel
  exact h2 o (kb_4 h) h
theorem ly_4_7 {o : Nat} (h : kd o = 14) : rfn o 7 = o + 6 := by
  have h2 : ∀ o, o < NP → kd o = 14 → rfn o 7 = o + 6 := by decide +kernel
  exact h2 o (kb_4 h) h
theorem lk_4_7 {o : Nat} (h : kd o = 14) : kd (o + 6) = 1 := by
  have h2 : ∀ o, o < NP → kd o = 14 → kd (o + 6) = 1 := by decide +kernel
  exact h2 o (kb_4 h) h
theorem la_4_7 {o : Nat} (h : kd o = 14) : al (o + 6) = 8 := by
  have h2 : ∀ o, o < NP → kd o = 14 → al (o + 6) = 8 := by decide +kernel
  exact h2 o (kb_4 h) h
theorem ly_4_8 {o : Nat} (h : kd o = 14) : rfn o 8 = o + 7 := by
  have h2 : ∀ o, o < NP → kd o = 14 → rfn o 8 = o + 7 := by decide +kernel
  exact h2 o (kb_4 h) h
theorem lk_4_8 {o : Nat} (h : kd o = 14) : kd (o + 7) = 1 := by
  have h2 : ∀ o, o < NP → kd o = 14 → kd (o + 7) = 1 := by decide +kernel
  exact h2 o (kb_4 h) h
theorem la_4_8 {o : Nat} (h : kd o = 14) : al (o + 7) = 8 := by
  have h2 : ∀ o, o < NP → kd o = 14 → al (o + 7) = 8 := by decide +kernel
  exact h2 o (kb_4 h) h
theorem ly_4_9 {o : Nat} (h : kd o = 14) : rfn o 9 = o + 8 := by
  have h2 : ∀ o, o < NP → kd o = 14 → rfn o 9 = o + 8 := by decide +kernel
  exact h2 o (kb_4 h) h
theorem lk_4_9 {o : Nat} (h : kd o = 14) : kd (o + 8) = 1 := by
  have h2 : ∀ o, o < NP → kd o = 14 → kd (o + 8) = 1 := by decide +kernel
  exact h2 o (kb_4 h) h
theorem la_4_9 {o : Nat} (h : kd o = 14) : al (o + 8) = 8 := by
  have h2 : ∀ o, o < NP → kd o = 14 → al (o + 8) = 8 := by decide +kernel
  exact h2 o (kb_4 h) h
theorem ly_4_10 {o : Nat} (h : kd o = 14) : rfn o 10 = o + 9 := by
  have h2 : ∀ o, o < NP → kd o = 14 → rfn o 10 = o + 9 := by decide +kernel
  exact h2 o (kb_4 h) h
theorem lk_4_10 {o : Nat} (h : kd o = 14) : kd (o + 9) = 1 := by
  have h2 : ∀ o, o < NP → kd o = 14 → kd (o + 9) = 1 := by decide +kernel
  exact h2 o (kb_4 h) h
theorem la_4_10 {o : Nat} (h : kd o = 14) : al (o + 9) = 20 := by
  have h2 : ∀ o, o < NP → kd o = 14 → al (o + 9) = 20 := by decide +kernel
  exact h2 o (kb_4 h) h
theorem kb_6 {o : Nat} (h : kd o = 16) : o < NP := kd_lt h (by decide)
theorem ly_6_0 {o : Nat} (h : kd o = 16) : rfn o 0 = 3 := by
  have h2 : ∀ o, o < NP → kd o = 16 → rfn o 0 = 3 := by decide +kernel
  exact h2 o (kb_6 h) h
theorem ly_6_1 {o : Nat} (h : kd o = 16) : rfn o 1 = o + 1 := by
  have h2 : ∀ o, o < NP → kd o = 16 → rfn o 1 = o + 1 := by decide +kernel
  exact h2 o (kb_6 h) h
theorem lk_6_1 {o : Nat} (h : kd o = 16) : kd (o + 1) = 1 := by
  have h2 : ∀ o, o < NP → kd o = 16 → kd (o + 1) = 1 := by decide +kernel
  exact h2 o (kb_6 h) h
theorem la_6_1 {o : Nat} (h : kd o = 16) : al (o + 1) = 8 := by
  have h2 : ∀ o, o < NP → kd o = 16 → al (o + 1) = 8 := by decide +kernel
  exact h2 o (kb_6 h) h
theorem ly_6_2 {o : Nat} (h : kd o = 16) : rfn o 2 = o + 2 := by
  have h2 : ∀ o, o < NP → kd o = 16 → rfn o 2 = o + 2 := by decide +kernel
  exact h2 o (kb_6 h) h
theorem lk_6_2 {o : Nat} (h : kd o = 16) : kd (o + 2) = 1 := by
  have h2 : ∀ o, o < NP → kd o = 16 → kd (o + 2) = 1 := by decide +kernel
  exact h2 o (kb_6 h) h
theorem la_6_2 {o : Nat} (h : kd o = 16) : al (o + 2) = 8 := by
  have h2 : ∀ o, o < NP → kd o = 16 → al (o + 2) = 8 := by decide +kernel
  exact h2 o (kb_6 h) h
theorem ly_6_3 {o : Nat} (h : kd o = 16) : rfn o 3 = o + 3 := by
  have h2 : ∀ o, o < NP → kd o = 16 → rfn o 3 = o + 3 := by decide +kernel
  exact h2 o (kb_6 h) h
theorem lk_6_3 {o : Nat} (h : kd o = 16) : kd (o + 3) = 1 := by
  have h2 : ∀ o, o < NP → kd o = 16 → kd (o + 3) = 1 := by decide +kernel
  exact h2 o (kb_6 h) h
theorem la_6_3 {o : Nat} (h : kd o = 16) : al (o + 3) = 8 := by
  have h2 : ∀ o, o < NP → kd o = 16 → al (o + 3) = 8 := by decide +kernel
  exact h2 o (kb_6 h) h
theorem ly_6_4 {o : Nat} (h : kd o = 16) : rfn o 4 = o + 4 := by
  have h2 : ∀ o, o < NP → kd o = 16 → rfn o 4 = o + 4 := by decide +kernel
  exact h2 o (kb_6 h) h
theorem lk_6_4 {o : Nat} (h : kd o = 16) : kd (o + 4) = 1 := by
  have h2 : ∀ o, o < NP → kd o = 16 → kd (o + 4) = 1 := by decide +kernel
  exact h2 o (kb_6 h) h
theorem la_6_4 {o : Nat} (h : kd o = 16) : al (o + 4) = 8 := by
  have h2 : ∀ o, o < NP → kd o = 16 → al (o + 4) = 8 := by decide +kernel
  exact h2 o (kb_6 h) h
theorem ly_6_5 {o : Nat} (h : kd o = 16) : rfn o 5 = o + 5 := by
  have h2 : ∀ o, o < NP → kd o = 16 → rfn o 5 = o + 5 := by decide +kernel
  exact h2 o (kb_6 h) h
theorem lk_6_5 {o : Nat} (h : kd o = 16) : kd (o + 5) = 1 := by
  have h2 : ∀ o, o < NP → kd o = 16 → kd (o + 5) = 1 := by decide +kernel
  exact h2 o (kb_6 h) h
theorem la_6_5 {o : Nat} (h : kd o = 16) : al (o + 5) = 8 := by
  have h2 : ∀ o, o < NP → kd o = 16 → al (o + 5) = 8 := by decide +kernel
  exact h2 o (kb_6 h) h
theorem ly_6_6 {o : Nat} (h : kd o = 16) : rfn o 6 = o + 6 := by
  have h2 : ∀ o, o < NP → kd o = 16 → rfn o 6 = o + 6 := by decide +kernel
  exact h2 o (kb_6 h) h
theorem lk_6_6 {o : Nat} (h : kd o = 16) : kd (o + 6) = 1 := by
  have h2 : ∀ o, o < NP → kd o = 16 → kd (o + 6) = 1 := by decide +kernel
  exact h2 o (kb_6 h) h
theorem la_6_6 {o : Nat} (h : kd o = 16) : al (o + 6) = 8 := by
  have h2 : ∀ o, o < NP → kd o = 16 → al (o + 6) = 8 := by decide +kernel
  exact h2 o (kb_6 h) h
theorem ly_6_7 {o : Nat} (h : kd o = 16) : rfn o 7 = o + 7 := by
  have h2 : ∀ o, o < NP → kd o = 16 → rfn o 7 = o + 7 := by decide +kernel
  exact h2 o (kb_6 h) h
theorem lk_6_7 {o : Nat} (h : kd o = 16) : kd (o + 7) = 1 := by
  have h2 : ∀ o, o < NP → kd o = 16 → kd (o + 7) = 1 := by decide +kernel
  exact h2 o (kb_6 h) h
theorem la_6_7 {o : Nat} (h : kd o = 16) : al (o + 7) = 8 := by
  have h2 : ∀ o, o < NP → kd o = 16 → al (o + 7) = 8 := by decide +kernel
  exact h2 o (kb_6 h) h
theorem kb_9 {o : Nat} (h : kd o = 19) : o < NP := kd_lt h (by decide)
theorem ly_9_0 {o : Nat} (h : kd o = 19) : rfn o 0 = o + 1 := by
  have h2 : ∀ o, o < NP → kd o = 19 → rfn o 0 = o + 1 := by decide +kernel
  exact h2 o (kb_9 h) h
theorem lk_9_0 {o : Nat} (h : kd o = 19) : kd (o + 1) = 1 := by
  have h2 : ∀ o, o < NP → kd o = 19 → kd (o + 1) = 1 := by decide +kernel
  exact h2 o (kb_9 h) h
theorem kb_7 {o : Nat} (h : kd o = 17) : o < NP := kd_lt h (by decide)
theorem ly_7_2 {o : Nat} (h : kd o = 17) : rfn o 2 = o + 1 := by
  have h2 : ∀ o, o < NP → kd o = 17 → rfn o 2 = o + 1 := by decide +kernel
  exact h2 o (kb_7 h) h
theorem lk_7_2 {o : Nat} (h : kd o = 17) : kd (o + 1) = 1 := by
  have h2 : ∀ o, o < NP → kd o = 17 → kd (o + 1) = 1 := by decide +kernel
  exact h2 o (kb_7 h) h
theorem la_7_2 {o : Nat} (h : kd o = 17) : al (o + 1) = 60 := by
  have h2 : ∀ o, o < NP → kd o = 17 → al (o + 1) = 60 := by decide +kernel
  exact h2 o (kb_7 h) h
theorem ra_1 {z : Int} (h : inb z 3) : rfn 1 z.toNat = 30 + 2 * z.toNat ∧ kd (30 + 2 * z.toNat) = 19 := by
  have h2 : ∀ n, n < 3 → rfn 1 n = 30 + 2 * n ∧ kd (30 + 2 * n) = 19 := by decide +kernel
  unfold inb at h
  exact h2 z.toNat (by omega)
theorem ra_29 {z : Int} (h : inb z 4) : rfn 29 z.toNat = 36 + 2 * z.toNat ∧ kd (36 + 2 * z.toNat) = 17 := by
  have h2 : ∀ n, n < 4 → rfn 29 n = 36 + 2 * n ∧ kd (36 + 2 * n) = 17 := by decide +kernel
  unfold inb at h
  exact h2 z.toNat (by omega)
