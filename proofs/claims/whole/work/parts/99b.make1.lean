/-! ===== words and links of the constructors ===== -/
theorem wi_236 : (Cond.methodLink "SmokeRings$Text" (3 : Nat) ({ cls := "java/lang/Object", name := "<init>", desc := "()V" } : MethodName)) ∈ gW := mem_t1 236 (by decide +kernel) (by decide +kernel)
theorem wi_25 : (Cond.instanceMethod ({ cls := "java/lang/Object", name := "<init>", desc := "()V" } : MethodName)) ∈ gW := mem_t1 25 (by decide +kernel) (by decide +kernel)
theorem wi_26 : (Cond.code ({ cls := "java/lang/Object", name := "<init>", desc := "()V" } : MethodName) object_method_1_code (1 : Nat) (Option.none : Option FieldType)) ∈ gW := mem_t1 26 (by decide +kernel) (by decide +kernel)
theorem ip_RX9_9 : ic_FP RX9 9 9 1 (tyX9 1) := ⟨(RX9, TX9, 2), tyX9, rfl, by decide, uw_9, wm_241, tyX9_ok, nmX9, rfl, rfl⟩
theorem wi_51 : (Cond.arrayClass FieldType.int) ∈ gW := mem_t1 51 (by decide +kernel) (by decide +kernel)
theorem ip_RX9_21 : ic_FP RX9 21 9 0 (tyX9 0) := ⟨(RX9, TX9, 2), tyX9, rfl, by decide, uw_9, wm_240, tyX9_ok, nmX9, rfl, rfl⟩
theorem wi_34 : (Cond.methodLink "SmokeRings$Valley" (3 : Nat) ({ cls := "java/lang/Object", name := "<init>", desc := "()V" } : MethodName)) ∈ gW := mem_t1 34 (by decide +kernel) (by decide +kernel)
theorem ip_RX10_9 : ic_FP RX10 9 10 0 (tyX10 0) := ⟨(RX10, TX10, 3), tyX10, rfl, by decide, uw_10, wm_35, tyX10_ok, nmX10, rfl, rfl⟩
theorem wi_52 : (Cond.arrayClass FieldType.boolean) ∈ gW := mem_t1 52 (by decide +kernel) (by decide +kernel)
theorem ip_RX10_15 : ic_FP RX10 15 10 1 (tyX10 1) := ⟨(RX10, TX10, 3), tyX10, rfl, by decide, uw_10, wm_41, tyX10_ok, nmX10, rfl, rfl⟩
theorem ip_RX10_19 : ic_FP RX10 19 10 2 (tyX10 2) := ⟨(RX10, TX10, 3), tyX10, rfl, by decide, uw_10, wm_42, tyX10_ok, nmX10, rfl, rfl⟩
theorem wi_58 : (Cond.methodLink "SmokeRings$Night" (3 : Nat) ({ cls := "java/lang/Object", name := "<init>", desc := "()V" } : MethodName)) ∈ gW := mem_t1 58 (by decide +kernel) (by decide +kernel)
theorem ip_RX4_9 : ic_FP RX4 9 4 0 (tyX4 0) := ⟨(RX4, TX4, 12), tyX4, rfl, by decide, uw_4, wm_62, tyX4_ok, nmX4, rfl, rfl⟩
theorem ip_RX4_15 : ic_FP RX4 15 4 1 (tyX4 1) := ⟨(RX4, TX4, 12), tyX4, rfl, by decide, uw_4, wm_68, tyX4_ok, nmX4, rfl, rfl⟩
theorem ip_RX4_19 : ic_FP RX4 19 4 2 (tyX4 2) := ⟨(RX4, TX4, 12), tyX4, rfl, by decide, uw_4, wm_74, tyX4_ok, nmX4, rfl, rfl⟩
theorem ip_RX4_22 : ic_FP RX4 22 4 3 (tyX4 3) := ⟨(RX4, TX4, 12), tyX4, rfl, by decide, uw_4, wm_78, tyX4_ok, nmX4, rfl, rfl⟩
theorem ip_RX4_25 : ic_FP RX4 25 4 4 (tyX4 4) := ⟨(RX4, TX4, 12), tyX4, rfl, by decide, uw_4, wm_82, tyX4_ok, nmX4, rfl, rfl⟩
theorem ip_RX4_28 : ic_FP RX4 28 4 5 (tyX4 5) := ⟨(RX4, TX4, 12), tyX4, rfl, by decide, uw_4, wm_86, tyX4_ok, nmX4, rfl, rfl⟩
theorem ip_RX4_31 : ic_FP RX4 31 4 6 (tyX4 6) := ⟨(RX4, TX4, 12), tyX4, rfl, by decide, uw_4, wm_89, tyX4_ok, nmX4, rfl, rfl⟩
theorem ip_RX4_34 : ic_FP RX4 34 4 7 (tyX4 7) := ⟨(RX4, TX4, 12), tyX4, rfl, by decide, uw_4, wm_96, tyX4_ok, nmX4, rfl, rfl⟩
theorem ip_RX4_37 : ic_FP RX4 37 4 8 (tyX4 8) := ⟨(RX4, TX4, 12), tyX4, rfl, by decide, uw_4, wm_100, tyX4_ok, nmX4, rfl, rfl⟩
theorem ip_RX4_40 : ic_FP RX4 40 4 9 (tyX4 9) := ⟨(RX4, TX4, 12), tyX4, rfl, by decide, uw_4, wm_102, tyX4_ok, nmX4, rfl, rfl⟩
theorem ip_RX4_43 : ic_FP RX4 43 4 10 (tyX4 10) := ⟨(RX4, TX4, 12), tyX4, rfl, by decide, uw_4, wm_104, tyX4_ok, nmX4, rfl, rfl⟩
theorem ip_RX4_46 : ic_FP RX4 46 4 11 (tyX4 11) := ⟨(RX4, TX4, 12), tyX4, rfl, by decide, uw_4, wm_109, tyX4_ok, nmX4, rfl, rfl⟩
theorem is_X4_49 : sr_MS RX4 49 yJ7_fill_53178 cJ7_fill_53178 4 none 2 := ⟨wm_59, wm_60, wm_4, wm_61, ⟨by decide +kernel, by decide +kernel⟩, by decide +kernel, by decide⟩
theorem wi_143 : (Cond.methodLink "SmokeRings$Play" (3 : Nat) ({ cls := "java/lang/Object", name := "<init>", desc := "()V" } : MethodName)) ∈ gW := mem_t1 143 (by decide +kernel) (by decide +kernel)
theorem ip_RX6_9 : ic_FP RX6 9 6 1 (tyX6 1) := ⟨(RX6, TX6, 13), tyX6, rfl, by decide, uw_6, wm_145, tyX6_ok, nmX6, rfl, rfl⟩
theorem ip_RX6_15 : ic_FP RX6 15 6 2 (tyX6 2) := ⟨(RX6, TX6, 13), tyX6, rfl, by decide, uw_6, wm_148, tyX6_ok, nmX6, rfl, rfl⟩
theorem ip_RX6_18 : ic_FP RX6 18 6 3 (tyX6 3) := ⟨(RX6, TX6, 13), tyX6, rfl, by decide, uw_6, wm_150, tyX6_ok, nmX6, rfl, rfl⟩
theorem ip_RX6_21 : ic_FP RX6 21 6 4 (tyX6 4) := ⟨(RX6, TX6, 13), tyX6, rfl, by decide, uw_6, wm_152, tyX6_ok, nmX6, rfl, rfl⟩
theorem ip_RX6_24 : ic_FP RX6 24 6 5 (tyX6 5) := ⟨(RX6, TX6, 13), tyX6, rfl, by decide, uw_6, wm_155, tyX6_ok, nmX6, rfl, rfl⟩
theorem ip_RX6_27 : ic_FP RX6 27 6 6 (tyX6 6) := ⟨(RX6, TX6, 13), tyX6, rfl, by decide, uw_6, wm_158, tyX6_ok, nmX6, rfl, rfl⟩
theorem ip_RX6_30 : ic_FP RX6 30 6 7 (tyX6 7) := ⟨(RX6, TX6, 13), tyX6, rfl, by decide, uw_6, wm_160, tyX6_ok, nmX6, rfl, rfl⟩
theorem ip_RX6_33 : ic_FP RX6 33 6 8 (tyX6 8) := ⟨(RX6, TX6, 13), tyX6, rfl, by decide, uw_6, wm_163, tyX6_ok, nmX6, rfl, rfl⟩
theorem ip_RX6_37 : ic_FP RX6 37 6 9 (tyX6 9) := ⟨(RX6, TX6, 13), tyX6, rfl, by decide, uw_6, wm_167, tyX6_ok, nmX6, rfl, rfl⟩
theorem ip_RX6_40 : ic_FP RX6 40 6 10 (tyX6 10) := ⟨(RX6, TX6, 13), tyX6, rfl, by decide, uw_6, wm_169, tyX6_ok, nmX6, rfl, rfl⟩
theorem ip_RX6_43 : ic_FP RX6 43 6 11 (tyX6 11) := ⟨(RX6, TX6, 13), tyX6, rfl, by decide, uw_6, wm_171, tyX6_ok, nmX6, rfl, rfl⟩
theorem ip_RX6_46 : ic_FP RX6 46 6 12 (tyX6 12) := ⟨(RX6, TX6, 13), tyX6, rfl, by decide, uw_6, wm_172, tyX6_ok, nmX6, rfl, rfl⟩
theorem ip_RX6_50 : ic_FP RX6 50 6 0 (tyX6 0) := ⟨(RX6, TX6, 13), tyX6, rfl, by decide, uw_6, wm_144, tyX6_ok, nmX6, rfl, rfl⟩
theorem wi_205 : (Cond.methodLink "SmokeRings$Diary" (3 : Nat) ({ cls := "java/lang/Object", name := "<init>", desc := "()V" } : MethodName)) ∈ gW := mem_t1 205 (by decide +kernel) (by decide +kernel)
theorem ip_RX1_9 : ic_FP RX1 9 1 0 (tyX1 0) := ⟨(RX1, TX1, 1), tyX1, rfl, by decide, uw_1, wm_206, tyX1_ok, nmX1, rfl, rfl⟩
theorem wi_215 : (Cond.methodLink "SmokeRings$Sights" (3 : Nat) ({ cls := "java/lang/Object", name := "<init>", desc := "()V" } : MethodName)) ∈ gW := mem_t1 215 (by decide +kernel) (by decide +kernel)
theorem ip_RX8_9 : ic_FP RX8 9 8 0 (tyX8 0) := ⟨(RX8, TX8, 3), tyX8, rfl, by decide, uw_8, wm_216, tyX8_ok, nmX8, rfl, rfl⟩
theorem ip_RX8_15 : ic_FP RX8 15 8 1 (tyX8 1) := ⟨(RX8, TX8, 3), tyX8, rfl, by decide, uw_8, wm_217, tyX8_ok, nmX8, rfl, rfl⟩
theorem ip_RX8_18 : ic_FP RX8 18 8 2 (tyX8 2) := ⟨(RX8, TX8, 3), tyX8, rfl, by decide, uw_8, wm_218, tyX8_ok, nmX8, rfl, rfl⟩
theorem wi_254 : (Cond.methodLink "SmokeRings$Sheet" (3 : Nat) ({ cls := "java/lang/Object", name := "<init>", desc := "()V" } : MethodName)) ∈ gW := mem_t2 14 (by decide +kernel) (by decide +kernel)
theorem ip_RX7_9 : ic_FP RX7 9 7 0 (tyX7 0) := ⟨(RX7, TX7, 3), tyX7, rfl, by decide, uw_7, wm_255, tyX7_ok, nmX7, rfl, rfl⟩
theorem ip_RX7_15 : ic_FP RX7 15 7 1 (tyX7 1) := ⟨(RX7, TX7, 3), tyX7, rfl, by decide, uw_7, wm_257, tyX7_ok, nmX7, rfl, rfl⟩
theorem ip_RX7_18 : ic_FP RX7 18 7 2 (tyX7 2) := ⟨(RX7, TX7, 3), tyX7, rfl, by decide, uw_7, wm_259, tyX7_ok, nmX7, rfl, rfl⟩
theorem wi_279 : (Cond.methodLink "SmokeRings$Few" (3 : Nat) ({ cls := "java/lang/Object", name := "<init>", desc := "()V" } : MethodName)) ∈ gW := mem_t2 39 (by decide +kernel) (by decide +kernel)
theorem ip_RX2_9 : ic_FP RX2 9 2 0 (tyX2 0) := ⟨(RX2, TX2, 3), tyX2, rfl, by decide, uw_2, wm_280, tyX2_ok, nmX2, rfl, rfl⟩
theorem ip_RX2_15 : ic_FP RX2 15 2 1 (tyX2 1) := ⟨(RX2, TX2, 3), tyX2, rfl, by decide, uw_2, wm_281, tyX2_ok, nmX2, rfl, rfl⟩
theorem ip_RX2_18 : ic_FP RX2 18 2 2 (tyX2 2) := ⟨(RX2, TX2, 3), tyX2, rfl, by decide, uw_2, wm_282, tyX2_ok, nmX2, rfl, rfl⟩
theorem wi_273 : (Cond.methodLink "SmokeRings$Plans" (3 : Nat) ({ cls := "java/lang/Object", name := "<init>", desc := "()V" } : MethodName)) ∈ gW := mem_t2 33 (by decide +kernel) (by decide +kernel)
theorem ip_RX5_9 : ic_FP RX5 9 5 4 (tyX5 4) := ⟨(RX5, TX5, 10), tyX5, rfl, by decide, uw_5, wm_294, tyX5_ok, nmX5, rfl, rfl⟩
theorem ip_RX5_15 : ic_FP RX5 15 5 5 (tyX5 5) := ⟨(RX5, TX5, 10), tyX5, rfl, by decide, uw_5, wm_296, tyX5_ok, nmX5, rfl, rfl⟩
theorem ip_RX5_18 : ic_FP RX5 18 5 6 (tyX5 6) := ⟨(RX5, TX5, 10), tyX5, rfl, by decide, uw_5, wm_298, tyX5_ok, nmX5, rfl, rfl⟩
theorem ip_RX5_21 : ic_FP RX5 21 5 7 (tyX5 7) := ⟨(RX5, TX5, 10), tyX5, rfl, by decide, uw_5, wm_300, tyX5_ok, nmX5, rfl, rfl⟩
theorem ip_RX5_24 : ic_FP RX5 24 5 8 (tyX5 8) := ⟨(RX5, TX5, 10), tyX5, rfl, by decide, uw_5, wm_302, tyX5_ok, nmX5, rfl, rfl⟩
theorem wi_274 : (Cond.classLink "SmokeRings$Plans" (27 : Nat) "SmokeRings$Few") ∈ gW := mem_t2 34 (by decide +kernel) (by decide +kernel)
theorem wi_275 : (Cond.instantiable "SmokeRings$Few" (3 : Nat)) ∈ gW := mem_t2 35 (by decide +kernel) (by decide +kernel)
theorem iw_RX5_27 : ic_NW RX5 27 2 [.int 0, .int 0, .int 0] 3 := ⟨(RX2, TX2, 3), tyX2, rfl, uw_2, tyX2_ok, wi_274, wi_275, wm_12, fun j hj => by
  have hj : j < 3 := hj
  rcases (show j = 0 ∨ j = 1 ∨ j = 2 by omega) with rfl | rfl | rfl <;> rfl, rfl⟩
theorem wi_277 : (Cond.instanceMethod ({ cls := "SmokeRings$Few", name := "<init>", desc := "()V" } : MethodName)) ∈ gW := mem_t2 37 (by decide +kernel) (by decide +kernel)
theorem wi_278 : (Cond.code ({ cls := "SmokeRings$Few", name := "<init>", desc := "()V" } : MethodName) prog_4_method_1_code (1 : Nat) (Option.none : Option FieldType)) ∈ gW := mem_t2 38 (by decide +kernel) (by decide +kernel)
theorem in_X2_init : ic_MN yX2_init cX2_init 1 0 := ⟨wi_277, wm_12, wi_278, rfl, ⟨by decide +kernel, by decide +kernel⟩, by decide +kernel⟩
theorem ip_RX5_30 : ic_FP RX5 30 5 9 (tyX5 9) := ⟨(RX5, TX5, 10), tyX5, rfl, by decide, uw_5, wm_304, tyX5_ok, nmX5, rfl, rfl⟩
theorem ip_RX5_34 : ic_FP RX5 34 5 0 (tyX5 0) := ⟨(RX5, TX5, 10), tyX5, rfl, by decide, uw_5, wm_290, tyX5_ok, nmX5, rfl, rfl⟩
theorem ip_RX5_38 : ic_FP RX5 38 5 1 (tyX5 1) := ⟨(RX5, TX5, 10), tyX5, rfl, by decide, uw_5, wm_291, tyX5_ok, nmX5, rfl, rfl⟩
theorem ip_RX5_42 : ic_FP RX5 42 5 2 (tyX5 2) := ⟨(RX5, TX5, 10), tyX5, rfl, by decide, uw_5, wm_292, tyX5_ok, nmX5, rfl, rfl⟩
theorem ip_RX5_45 : ic_FP RX5 45 5 3 (tyX5 3) := ⟨(RX5, TX5, 10), tyX5, rfl, by decide, uw_5, wm_293, tyX5_ok, nmX5, rfl, rfl⟩
theorem wi_332 : (Cond.methodLink "SmokeRings$Guesses" (3 : Nat) ({ cls := "java/lang/Object", name := "<init>", desc := "()V" } : MethodName)) ∈ gW := mem_t2 92 (by decide +kernel) (by decide +kernel)
theorem ip_RX3_9 : ic_FP RX3 9 3 5 (tyX3 5) := ⟨(RX3, TX3, 7), tyX3, rfl, by decide, uw_3, wm_338, tyX3_ok, nmX3, rfl, rfl⟩
theorem ip_RX3_15 : ic_FP RX3 15 3 6 (tyX3 6) := ⟨(RX3, TX3, 7), tyX3, rfl, by decide, uw_3, wm_339, tyX3_ok, nmX3, rfl, rfl⟩
theorem ip_RX3_19 : ic_FP RX3 19 3 0 (tyX3 0) := ⟨(RX3, TX3, 7), tyX3, rfl, by decide, uw_3, wm_333, tyX3_ok, nmX3, rfl, rfl⟩
theorem ip_RX3_23 : ic_FP RX3 23 3 1 (tyX3 1) := ⟨(RX3, TX3, 7), tyX3, rfl, by decide, uw_3, wm_334, tyX3_ok, nmX3, rfl, rfl⟩
theorem ip_RX3_27 : ic_FP RX3 27 3 2 (tyX3 2) := ⟨(RX3, TX3, 7), tyX3, rfl, by decide, uw_3, wm_335, tyX3_ok, nmX3, rfl, rfl⟩
theorem ip_RX3_30 : ic_FP RX3 30 3 3 (tyX3 3) := ⟨(RX3, TX3, 7), tyX3, rfl, by decide, uw_3, wm_336, tyX3_ok, nmX3, rfl, rfl⟩
theorem ip_RX3_34 : ic_FP RX3 34 3 4 (tyX3 4) := ⟨(RX3, TX3, 7), tyX3, rfl, by decide, uw_3, wm_337, tyX3_ok, nmX3, rfl, rfl⟩
theorem wi_360 : (Cond.methodLink "SmokeRings$Chances" (3 : Nat) ({ cls := "java/lang/Object", name := "<init>", desc := "()V" } : MethodName)) ∈ gW := mem_t2 120 (by decide +kernel) (by decide +kernel)
theorem ip_RX0_9 : ic_FP RX0 9 0 4 (tyX0 4) := ⟨(RX0, TX0, 10), tyX0, rfl, by decide, uw_0, wm_365, tyX0_ok, nmX0, rfl, rfl⟩
theorem ip_RX0_15 : ic_FP RX0 15 0 5 (tyX0 5) := ⟨(RX0, TX0, 10), tyX0, rfl, by decide, uw_0, wm_366, tyX0_ok, nmX0, rfl, rfl⟩
theorem wi_394 : (Cond.arrayClass FieldType.long) ∈ gW := mem_t2 154 (by decide +kernel) (by decide +kernel)
theorem ip_RX0_19 : ic_FP RX0 19 0 6 (tyX0 6) := ⟨(RX0, TX0, 10), tyX0, rfl, by decide, uw_0, wm_367, tyX0_ok, nmX0, rfl, rfl⟩
theorem ip_RX0_23 : ic_FP RX0 23 0 7 (tyX0 7) := ⟨(RX0, TX0, 10), tyX0, rfl, by decide, uw_0, wm_368, tyX0_ok, nmX0, rfl, rfl⟩
theorem ip_RX0_26 : ic_FP RX0 26 0 8 (tyX0 8) := ⟨(RX0, TX0, 10), tyX0, rfl, by decide, uw_0, wm_369, tyX0_ok, nmX0, rfl, rfl⟩
theorem ip_RX0_29 : ic_FP RX0 29 0 9 (tyX0 9) := ⟨(RX0, TX0, 10), tyX0, rfl, by decide, uw_0, wm_371, tyX0_ok, nmX0, rfl, rfl⟩
theorem ip_RX0_32 : ic_FP RX0 32 0 0 (tyX0 0) := ⟨(RX0, TX0, 10), tyX0, rfl, by decide, uw_0, wm_361, tyX0_ok, nmX0, rfl, rfl⟩
theorem ip_RX0_36 : ic_FP RX0 36 0 1 (tyX0 1) := ⟨(RX0, TX0, 10), tyX0, rfl, by decide, uw_0, wm_362, tyX0_ok, nmX0, rfl, rfl⟩
theorem ip_RX0_40 : ic_FP RX0 40 0 2 (tyX0 2) := ⟨(RX0, TX0, 10), tyX0, rfl, by decide, uw_0, wm_363, tyX0_ok, nmX0, rfl, rfl⟩
theorem ip_RX0_43 : ic_FP RX0 43 0 3 (tyX0 3) := ⟨(RX0, TX0, 10), tyX0, rfl, by decide, uw_0, wm_364, tyX0_ok, nmX0, rfl, rfl⟩
theorem wi_977 : (Cond.methodLink "SmokeRingsModel" (1 : Nat) ({ cls := "java/lang/Object", name := "<init>", desc := "()V" } : MethodName)) ∈ gW := mem_t5 17 (by decide +kernel) (by decide +kernel)
theorem ip_RX12_7 : ic_FP RX12 7 12 0 (tyX12 0) := ⟨(RX12, TX12, 32), tyX12, rfl, by decide, uw_12, wm_978, tyX12_ok, nmX12, rfl, rfl⟩
theorem ip_RX12_13 : ic_FP RX12 13 12 1 (tyX12 1) := ⟨(RX12, TX12, 32), tyX12, rfl, by decide, uw_12, wm_979, tyX12_ok, nmX12, rfl, rfl⟩
theorem ip_RX12_16 : ic_FP RX12 16 12 2 (tyX12 2) := ⟨(RX12, TX12, 32), tyX12, rfl, by decide, uw_12, wm_980, tyX12_ok, nmX12, rfl, rfl⟩
theorem ip_RX12_19 : ic_FP RX12 19 12 3 (tyX12 3) := ⟨(RX12, TX12, 32), tyX12, rfl, by decide, uw_12, wm_981, tyX12_ok, nmX12, rfl, rfl⟩
theorem ip_RX12_22 : ic_FP RX12 22 12 5 (tyX12 5) := ⟨(RX12, TX12, 32), tyX12, rfl, by decide, uw_12, wm_983, tyX12_ok, nmX12, rfl, rfl⟩
theorem ip_RX12_25 : ic_FP RX12 25 12 6 (tyX12 6) := ⟨(RX12, TX12, 32), tyX12, rfl, by decide, uw_12, wm_984, tyX12_ok, nmX12, rfl, rfl⟩
theorem ip_RX12_28 : ic_FP RX12 28 12 9 (tyX12 9) := ⟨(RX12, TX12, 32), tyX12, rfl, by decide, uw_12, wm_987, tyX12_ok, nmX12, rfl, rfl⟩
theorem ip_RX12_31 : ic_FP RX12 31 12 11 (tyX12 11) := ⟨(RX12, TX12, 32), tyX12, rfl, by decide, uw_12, wm_989, tyX12_ok, nmX12, rfl, rfl⟩
theorem ip_RX12_34 : ic_FP RX12 34 12 12 (tyX12 12) := ⟨(RX12, TX12, 32), tyX12, rfl, by decide, uw_12, wm_990, tyX12_ok, nmX12, rfl, rfl⟩
theorem ip_RX12_37 : ic_FP RX12 37 12 15 (tyX12 15) := ⟨(RX12, TX12, 32), tyX12, rfl, by decide, uw_12, wm_993, tyX12_ok, nmX12, rfl, rfl⟩
theorem ip_RX12_40 : ic_FP RX12 40 12 16 (tyX12 16) := ⟨(RX12, TX12, 32), tyX12, rfl, by decide, uw_12, wm_994, tyX12_ok, nmX12, rfl, rfl⟩
theorem ip_RX12_43 : ic_FP RX12 43 12 17 (tyX12 17) := ⟨(RX12, TX12, 32), tyX12, rfl, by decide, uw_12, wm_995, tyX12_ok, nmX12, rfl, rfl⟩
theorem ip_RX12_46 : ic_FP RX12 46 12 18 (tyX12 18) := ⟨(RX12, TX12, 32), tyX12, rfl, by decide, uw_12, wm_996, tyX12_ok, nmX12, rfl, rfl⟩
theorem ip_RX12_49 : ic_FP RX12 49 12 19 (tyX12 19) := ⟨(RX12, TX12, 32), tyX12, rfl, by decide, uw_12, wm_997, tyX12_ok, nmX12, rfl, rfl⟩
theorem ip_RX12_52 : ic_FP RX12 52 12 20 (tyX12 20) := ⟨(RX12, TX12, 32), tyX12, rfl, by decide, uw_12, wm_998, tyX12_ok, nmX12, rfl, rfl⟩
theorem ip_RX12_55 : ic_FP RX12 55 12 21 (tyX12 21) := ⟨(RX12, TX12, 32), tyX12, rfl, by decide, uw_12, wm_999, tyX12_ok, nmX12, rfl, rfl⟩
theorem ip_RX12_58 : ic_FP RX12 58 12 22 (tyX12 22) := ⟨(RX12, TX12, 32), tyX12, rfl, by decide, uw_12, wm_1000, tyX12_ok, nmX12, rfl, rfl⟩
theorem ip_RX12_61 : ic_FP RX12 61 12 28 (tyX12 28) := ⟨(RX12, TX12, 32), tyX12, rfl, by decide, uw_12, wm_1006, tyX12_ok, nmX12, rfl, rfl⟩
theorem ip_RX12_64 : ic_FP RX12 64 12 29 (tyX12 29) := ⟨(RX12, TX12, 32), tyX12, rfl, by decide, uw_12, wm_1007, tyX12_ok, nmX12, rfl, rfl⟩
theorem ip_RX12_67 : ic_FP RX12 67 12 31 (tyX12 31) := ⟨(RX12, TX12, 32), tyX12, rfl, by decide, uw_12, wm_1009, tyX12_ok, nmX12, rfl, rfl⟩
theorem ip_RX12_70 : ic_FP RX12 70 12 13 (tyX12 13) := ⟨(RX12, TX12, 32), tyX12, rfl, by decide, uw_12, wm_991, tyX12_ok, nmX12, rfl, rfl⟩
theorem wi_24 : (Cond.methodLink "SmokeRings" (3 : Nat) ({ cls := "java/lang/Object", name := "<init>", desc := "()V" } : MethodName)) ∈ gW := mem_t1 24 (by decide +kernel) (by decide +kernel)
theorem wi_27 : (Cond.classLink "SmokeRings" (9 : Nat) "SmokeRings$Text") ∈ gW := mem_t1 27 (by decide +kernel) (by decide +kernel)
theorem ip_RX11_11 : ic_FP RX11 11 11 0 (tyX11 0) := ⟨(RX11, TX11, 13), tyX11, rfl, by decide, uw_11, wm_395, tyX11_ok, nmX11, rfl, rfl⟩
theorem ip_RX11_15 : ic_FP RX11 15 11 1 (tyX11 1) := ⟨(RX11, TX11, 13), tyX11, rfl, by decide, uw_11, wm_396, tyX11_ok, nmX11, rfl, rfl⟩
theorem wi_29 : (Cond.classLink "SmokeRings" (19 : Nat) "SmokeRings$Valley") ∈ gW := mem_t1 29 (by decide +kernel) (by decide +kernel)
theorem wi_30 : (Cond.instantiable "SmokeRings$Valley" (3 : Nat)) ∈ gW := mem_t1 30 (by decide +kernel) (by decide +kernel)
theorem iw_RX11_19 : ic_NW RX11 19 10 [.int 0, .null, .null] 3 := ⟨(RX10, TX10, 3), tyX10, rfl, uw_10, tyX10_ok, wi_29, wi_30, wm_2, fun j hj => by
  have hj : j < 3 := hj
  rcases (show j = 0 ∨ j = 1 ∨ j = 2 by omega) with rfl | rfl | rfl <;> rfl, rfl⟩
theorem wi_32 : (Cond.instanceMethod ({ cls := "SmokeRings$Valley", name := "<init>", desc := "()V" } : MethodName)) ∈ gW := mem_t1 32 (by decide +kernel) (by decide +kernel)
theorem wi_33 : (Cond.code ({ cls := "SmokeRings$Valley", name := "<init>", desc := "()V" } : MethodName) prog_12_method_1_code (1 : Nat) (Option.none : Option FieldType)) ∈ gW := mem_t1 33 (by decide +kernel) (by decide +kernel)
theorem in_X10_init : ic_MN yX10_init cX10_init 1 0 := ⟨wi_32, wm_2, wi_33, rfl, ⟨by decide +kernel, by decide +kernel⟩, by decide +kernel⟩
theorem ip_RX11_22 : ic_FP RX11 22 11 2 (tyX11 2) := ⟨(RX11, TX11, 13), tyX11, rfl, by decide, uw_11, wm_397, tyX11_ok, nmX11, rfl, rfl⟩
theorem wi_53 : (Cond.classLink "SmokeRings" (26 : Nat) "SmokeRings$Night") ∈ gW := mem_t1 53 (by decide +kernel) (by decide +kernel)
theorem wi_54 : (Cond.instantiable "SmokeRings$Night" (12 : Nat)) ∈ gW := mem_t1 54 (by decide +kernel) (by decide +kernel)
theorem iw_RX11_26 : ic_NW RX11 26 4 [.int 0, .null, .null, .null, .null, .null, .int 0, .null, .null, .null, .null, .int 0] 12 := ⟨(RX4, TX4, 12), tyX4, rfl, uw_4, tyX4_ok, wi_53, wi_54, wm_3, fun j hj => by
  have hj : j < 12 := hj
  rcases (show j = 0 ∨ j = 1 ∨ j = 2 ∨ j = 3 ∨ j = 4 ∨ j = 5 ∨ j = 6 ∨ j = 7 ∨ j = 8 ∨ j = 9 ∨ j = 10 ∨ j = 11 by omega) with rfl | rfl | rfl | rfl | rfl | rfl | rfl | rfl | rfl | rfl | rfl | rfl <;> rfl, rfl⟩
theorem wi_56 : (Cond.instanceMethod ({ cls := "SmokeRings$Night", name := "<init>", desc := "()V" } : MethodName)) ∈ gW := mem_t1 56 (by decide +kernel) (by decide +kernel)
theorem wi_57 : (Cond.code ({ cls := "SmokeRings$Night", name := "<init>", desc := "()V" } : MethodName) prog_6_method_1_code (1 : Nat) (Option.none : Option FieldType)) ∈ gW := mem_t1 57 (by decide +kernel) (by decide +kernel)
theorem wi_55 : (Cond.methodLink "SmokeRings" (28 : Nat) ({ cls := "SmokeRings$Night", name := "<init>", desc := "()V" } : MethodName)) ∈ gW := mem_t1 55 (by decide +kernel) (by decide +kernel)
theorem im_RX11_28 : ic_MI RX11 28 yX4_init cX4_init 1 0 := ⟨wi_55, wi_56, wm_3, wi_57, rfl, ⟨by decide +kernel, by decide +kernel⟩, by decide +kernel⟩
theorem ip_RX11_29 : ic_FP RX11 29 11 3 (tyX11 3) := ⟨(RX11, TX11, 13), tyX11, rfl, by decide, uw_11, wm_398, tyX11_ok, nmX11, rfl, rfl⟩
theorem wi_138 : (Cond.classLink "SmokeRings" (33 : Nat) "SmokeRings$Play") ∈ gW := mem_t1 138 (by decide +kernel) (by decide +kernel)
theorem wi_139 : (Cond.instantiable "SmokeRings$Play" (13 : Nat)) ∈ gW := mem_t1 139 (by decide +kernel) (by decide +kernel)
theorem iw_RX11_33 : ic_NW RX11 33 6 [.null, .null, .null, .null, .null, .null, .null, .null, .int 0, .int 0, .int 0, .int 0, .long 0] 13 := ⟨(RX6, TX6, 13), tyX6, rfl, uw_6, tyX6_ok, wi_138, wi_139, wm_5, fun j hj => by
  have hj : j < 13 := hj
  rcases (show j = 0 ∨ j = 1 ∨ j = 2 ∨ j = 3 ∨ j = 4 ∨ j = 5 ∨ j = 6 ∨ j = 7 ∨ j = 8 ∨ j = 9 ∨ j = 10 ∨ j = 11 ∨ j = 12 by omega) with rfl | rfl | rfl | rfl | rfl | rfl | rfl | rfl | rfl | rfl | rfl | rfl | rfl <;> rfl, rfl⟩
theorem wi_141 : (Cond.instanceMethod ({ cls := "SmokeRings$Play", name := "<init>", desc := "(LSmokeRings$Valley;)V" } : MethodName)) ∈ gW := mem_t1 141 (by decide +kernel) (by decide +kernel)
theorem wi_142 : (Cond.code ({ cls := "SmokeRings$Play", name := "<init>", desc := "(LSmokeRings$Valley;)V" } : MethodName) prog_8_method_1_code (2 : Nat) (Option.none : Option FieldType)) ∈ gW := mem_t1 142 (by decide +kernel) (by decide +kernel)
theorem wi_140 : (Cond.methodLink "SmokeRings" (35 : Nat) ({ cls := "SmokeRings$Play", name := "<init>", desc := "(LSmokeRings$Valley;)V" } : MethodName)) ∈ gW := mem_t1 140 (by decide +kernel) (by decide +kernel)
theorem im_RX11_35 : ic_MI RX11 35 yX6_init cX6_init 2 1 := ⟨wi_140, wi_141, wm_5, wi_142, rfl, ⟨by decide +kernel, by decide +kernel⟩, by decide +kernel⟩
theorem ip_RX11_38 : ic_FP RX11 38 11 4 (tyX11 4) := ⟨(RX11, TX11, 13), tyX11, rfl, by decide, uw_11, wm_399, tyX11_ok, nmX11, rfl, rfl⟩
theorem wi_200 : (Cond.classLink "SmokeRings" (42 : Nat) "SmokeRings$Diary") ∈ gW := mem_t1 200 (by decide +kernel) (by decide +kernel)
theorem wi_201 : (Cond.instantiable "SmokeRings$Diary" (1 : Nat)) ∈ gW := mem_t1 201 (by decide +kernel) (by decide +kernel)
theorem iw_RX11_42 : ic_NW RX11 42 1 [.null] 1 := ⟨(RX1, TX1, 1), tyX1, rfl, uw_1, tyX1_ok, wi_200, wi_201, wm_6, fun j hj => by
  have hj : j < 1 := hj
  rcases (show j = 0 by omega) with rfl <;> rfl, rfl⟩
theorem wi_203 : (Cond.instanceMethod ({ cls := "SmokeRings$Diary", name := "<init>", desc := "()V" } : MethodName)) ∈ gW := mem_t1 203 (by decide +kernel) (by decide +kernel)
theorem wi_204 : (Cond.code ({ cls := "SmokeRings$Diary", name := "<init>", desc := "()V" } : MethodName) prog_3_method_1_code (1 : Nat) (Option.none : Option FieldType)) ∈ gW := mem_t1 204 (by decide +kernel) (by decide +kernel)
theorem in_X1_init : ic_MN yX1_init cX1_init 1 0 := ⟨wi_203, wm_6, wi_204, rfl, ⟨by decide +kernel, by decide +kernel⟩, by decide +kernel⟩
theorem ip_RX11_45 : ic_FP RX11 45 11 5 (tyX11 5) := ⟨(RX11, TX11, 13), tyX11, rfl, by decide, uw_11, wm_400, tyX11_ok, nmX11, rfl, rfl⟩
theorem wi_210 : (Cond.classLink "SmokeRings" (49 : Nat) "SmokeRings$Sights") ∈ gW := mem_t1 210 (by decide +kernel) (by decide +kernel)
theorem wi_211 : (Cond.instantiable "SmokeRings$Sights" (3 : Nat)) ∈ gW := mem_t1 211 (by decide +kernel) (by decide +kernel)
theorem iw_RX11_49 : ic_NW RX11 49 8 [.null, .null, .int 0] 3 := ⟨(RX8, TX8, 3), tyX8, rfl, uw_8, tyX8_ok, wi_210, wi_211, wm_7, fun j hj => by
  have hj : j < 3 := hj
  rcases (show j = 0 ∨ j = 1 ∨ j = 2 by omega) with rfl | rfl | rfl <;> rfl, rfl⟩
theorem wi_213 : (Cond.instanceMethod ({ cls := "SmokeRings$Sights", name := "<init>", desc := "()V" } : MethodName)) ∈ gW := mem_t1 213 (by decide +kernel) (by decide +kernel)
theorem wi_214 : (Cond.code ({ cls := "SmokeRings$Sights", name := "<init>", desc := "()V" } : MethodName) prog_10_method_1_code (1 : Nat) (Option.none : Option FieldType)) ∈ gW := mem_t1 214 (by decide +kernel) (by decide +kernel)
theorem in_X8_init : ic_MN yX8_init cX8_init 1 0 := ⟨wi_213, wm_7, wi_214, rfl, ⟨by decide +kernel, by decide +kernel⟩, by decide +kernel⟩
theorem ip_RX11_52 : ic_FP RX11 52 11 6 (tyX11 6) := ⟨(RX11, TX11, 13), tyX11, rfl, by decide, uw_11, wm_401, tyX11_ok, nmX11, rfl, rfl⟩
theorem wi_228 : (Cond.classLink "SmokeRings" (56 : Nat) "SmokeRings$Sheet") ∈ gW := mem_t1 228 (by decide +kernel) (by decide +kernel)
theorem ip_RX11_58 : ic_FP RX11 58 11 10 (tyX11 10) := ⟨(RX11, TX11, 13), tyX11, rfl, by decide, uw_11, wm_405, tyX11_ok, nmX11, rfl, rfl⟩
theorem ip_RX11_62 : ic_FP RX11 62 11 11 (tyX11 11) := ⟨(RX11, TX11, 13), tyX11, rfl, by decide, uw_11, wm_406, tyX11_ok, nmX11, rfl, rfl⟩
theorem ip_RX11_66 : ic_FP RX11 66 11 12 (tyX11 12) := ⟨(RX11, TX11, 13), tyX11, rfl, by decide, uw_11, wm_407, tyX11_ok, nmX11, rfl, rfl⟩
theorem wi_230 : (Cond.instantiable "SmokeRings$Text" (2 : Nat)) ∈ gW := mem_t1 230 (by decide +kernel) (by decide +kernel)
theorem iw_RX11_9 : ic_NW RX11 9 9 [.null, .int 0] 2 := ⟨(RX9, TX9, 2), tyX9, rfl, uw_9, tyX9_ok, wi_27, wi_230, wm_8, fun j hj => by
  have hj : j < 2 := hj
  rcases (show j = 0 ∨ j = 1 by omega) with rfl | rfl <;> rfl, rfl⟩
theorem wi_231 : (Cond.fieldLink "SmokeRings" (70 : Nat) "SmokeRings" "TEXT_ROOMS" "[I") ∈ gW := mem_t1 231 (by decide +kernel) (by decide +kernel)
theorem wi_234 : (Cond.instanceMethod ({ cls := "SmokeRings$Text", name := "<init>", desc := "(I)V" } : MethodName)) ∈ gW := mem_t1 234 (by decide +kernel) (by decide +kernel)
theorem wi_235 : (Cond.code ({ cls := "SmokeRings$Text", name := "<init>", desc := "(I)V" } : MethodName) prog_11_method_1_code (2 : Nat) (Option.none : Option FieldType)) ∈ gW := mem_t1 235 (by decide +kernel) (by decide +kernel)
theorem wi_233 : (Cond.methodLink "SmokeRings" (73 : Nat) ({ cls := "SmokeRings$Text", name := "<init>", desc := "(I)V" } : MethodName)) ∈ gW := mem_t1 233 (by decide +kernel) (by decide +kernel)
theorem im_RX11_73 : ic_MI RX11 73 yX9_init cX9_init 2 1 := ⟨wi_233, wi_234, wm_8, wi_235, rfl, ⟨by decide +kernel, by decide +kernel⟩, by decide +kernel⟩
theorem wi_250 : (Cond.instantiable "SmokeRings$Sheet" (3 : Nat)) ∈ gW := mem_t2 10 (by decide +kernel) (by decide +kernel)
theorem iw_RX11_56 : ic_NW RX11 56 7 [.int 0, .int 0, .null] 3 := ⟨(RX7, TX7, 3), tyX7, rfl, uw_7, tyX7_ok, wi_228, wi_250, wm_10, fun j hj => by
  have hj : j < 3 := hj
  rcases (show j = 0 ∨ j = 1 ∨ j = 2 by omega) with rfl | rfl | rfl <;> rfl, rfl⟩
theorem wi_252 : (Cond.instanceMethod ({ cls := "SmokeRings$Sheet", name := "<init>", desc := "()V" } : MethodName)) ∈ gW := mem_t2 12 (by decide +kernel) (by decide +kernel)
theorem wi_253 : (Cond.code ({ cls := "SmokeRings$Sheet", name := "<init>", desc := "()V" } : MethodName) prog_9_method_1_code (1 : Nat) (Option.none : Option FieldType)) ∈ gW := mem_t2 13 (by decide +kernel) (by decide +kernel)
theorem in_X7_init : ic_MN yX7_init cX7_init 1 0 := ⟨wi_252, wm_10, wi_253, rfl, ⟨by decide +kernel, by decide +kernel⟩, by decide +kernel⟩
theorem wi_268 : (Cond.classLink "SmokeRings" (77 : Nat) "SmokeRings$Plans") ∈ gW := mem_t2 28 (by decide +kernel) (by decide +kernel)
theorem wi_269 : (Cond.instantiable "SmokeRings$Plans" (10 : Nat)) ∈ gW := mem_t2 29 (by decide +kernel) (by decide +kernel)
theorem iw_RX11_77 : ic_NW RX11 77 5 [.null, .null, .null, .null, .int 0, .int 0, .int 0, .int 0, .int 0, .null] 10 := ⟨(RX5, TX5, 10), tyX5, rfl, uw_5, tyX5_ok, wi_268, wi_269, wm_11, fun j hj => by
  have hj : j < 10 := hj
  rcases (show j = 0 ∨ j = 1 ∨ j = 2 ∨ j = 3 ∨ j = 4 ∨ j = 5 ∨ j = 6 ∨ j = 7 ∨ j = 8 ∨ j = 9 by omega) with rfl | rfl | rfl | rfl | rfl | rfl | rfl | rfl | rfl | rfl <;> rfl, rfl⟩
theorem wi_271 : (Cond.instanceMethod ({ cls := "SmokeRings$Plans", name := "<init>", desc := "(LSmokeRings$Valley;LSmokeRings$Night;LSmokeRings$Night;LSmokeRings$Play;)V" } : MethodName)) ∈ gW := mem_t2 31 (by decide +kernel) (by decide +kernel)
theorem wi_272 : (Cond.code ({ cls := "SmokeRings$Plans", name := "<init>", desc := "(LSmokeRings$Valley;LSmokeRings$Night;LSmokeRings$Night;LSmokeRings$Play;)V" } : MethodName) prog_7_method_1_code (5 : Nat) (Option.none : Option FieldType)) ∈ gW := mem_t2 32 (by decide +kernel) (by decide +kernel)
theorem wi_270 : (Cond.methodLink "SmokeRings" (79 : Nat) ({ cls := "SmokeRings$Plans", name := "<init>", desc := "(LSmokeRings$Valley;LSmokeRings$Night;LSmokeRings$Night;LSmokeRings$Play;)V" } : MethodName)) ∈ gW := mem_t2 30 (by decide +kernel) (by decide +kernel)
theorem im_RX11_79 : ic_MI RX11 79 yX5_init cX5_init 5 4 := ⟨wi_270, wi_271, wm_11, wi_272, rfl, ⟨by decide +kernel, by decide +kernel⟩, by decide +kernel⟩
theorem ip_RX11_82 : ic_FP RX11 82 11 7 (tyX11 7) := ⟨(RX11, TX11, 13), tyX11, rfl, by decide, uw_11, wm_402, tyX11_ok, nmX11, rfl, rfl⟩
theorem wi_327 : (Cond.classLink "SmokeRings" (86 : Nat) "SmokeRings$Guesses") ∈ gW := mem_t2 87 (by decide +kernel) (by decide +kernel)
theorem wi_328 : (Cond.instantiable "SmokeRings$Guesses" (7 : Nat)) ∈ gW := mem_t2 88 (by decide +kernel) (by decide +kernel)
theorem iw_RX11_86 : ic_NW RX11 86 3 [.null, .null, .null, .null, .null, .long 0, .null] 7 := ⟨(RX3, TX3, 7), tyX3, rfl, uw_3, tyX3_ok, wi_327, wi_328, wm_13, fun j hj => by
  have hj : j < 7 := hj
  rcases (show j = 0 ∨ j = 1 ∨ j = 2 ∨ j = 3 ∨ j = 4 ∨ j = 5 ∨ j = 6 by omega) with rfl | rfl | rfl | rfl | rfl | rfl | rfl <;> rfl, rfl⟩
theorem wi_330 : (Cond.instanceMethod ({ cls := "SmokeRings$Guesses", name := "<init>", desc := "(LSmokeRings$Valley;LSmokeRings$Night;LSmokeRings$Night;LSmokeRings$Play;LSmokeRings$Sights;)V" } : MethodName)) ∈ gW := mem_t2 90 (by decide +kernel) (by decide +kernel)
theorem wi_331 : (Cond.code ({ cls := "SmokeRings$Guesses", name := "<init>", desc := "(LSmokeRings$Valley;LSmokeRings$Night;LSmokeRings$Night;LSmokeRings$Play;LSmokeRings$Sights;)V" } : MethodName) prog_5_method_1_code (6 : Nat) (Option.none : Option FieldType)) ∈ gW := mem_t2 91 (by decide +kernel) (by decide +kernel)
theorem wi_329 : (Cond.methodLink "SmokeRings" (88 : Nat) ({ cls := "SmokeRings$Guesses", name := "<init>", desc := "(LSmokeRings$Valley;LSmokeRings$Night;LSmokeRings$Night;LSmokeRings$Play;LSmokeRings$Sights;)V" } : MethodName)) ∈ gW := mem_t2 89 (by decide +kernel) (by decide +kernel)
theorem im_RX11_88 : ic_MI RX11 88 yX3_init cX3_init 6 5 := ⟨wi_329, wi_330, wm_13, wi_331, rfl, ⟨by decide +kernel, by decide +kernel⟩, by decide +kernel⟩
theorem ip_RX11_91 : ic_FP RX11 91 11 8 (tyX11 8) := ⟨(RX11, TX11, 13), tyX11, rfl, by decide, uw_11, wm_403, tyX11_ok, nmX11, rfl, rfl⟩
theorem wi_355 : (Cond.classLink "SmokeRings" (95 : Nat) "SmokeRings$Chances") ∈ gW := mem_t2 115 (by decide +kernel) (by decide +kernel)
theorem wi_356 : (Cond.instantiable "SmokeRings$Chances" (10 : Nat)) ∈ gW := mem_t2 116 (by decide +kernel) (by decide +kernel)
theorem iw_RX11_95 : ic_NW RX11 95 0 [.null, .null, .null, .null, .null, .int 0, .null, .int 0, .int 0, .int 0] 10 := ⟨(RX0, TX0, 10), tyX0, rfl, uw_0, tyX0_ok, wi_355, wi_356, wm_14, fun j hj => by
  have hj : j < 10 := hj
  rcases (show j = 0 ∨ j = 1 ∨ j = 2 ∨ j = 3 ∨ j = 4 ∨ j = 5 ∨ j = 6 ∨ j = 7 ∨ j = 8 ∨ j = 9 by omega) with rfl | rfl | rfl | rfl | rfl | rfl | rfl | rfl | rfl | rfl <;> rfl, rfl⟩
theorem wi_358 : (Cond.instanceMethod ({ cls := "SmokeRings$Chances", name := "<init>", desc := "(LSmokeRings$Valley;LSmokeRings$Night;LSmokeRings$Night;LSmokeRings$Play;)V" } : MethodName)) ∈ gW := mem_t2 118 (by decide +kernel) (by decide +kernel)
theorem wi_359 : (Cond.code ({ cls := "SmokeRings$Chances", name := "<init>", desc := "(LSmokeRings$Valley;LSmokeRings$Night;LSmokeRings$Night;LSmokeRings$Play;)V" } : MethodName) prog_2_method_1_code (5 : Nat) (Option.none : Option FieldType)) ∈ gW := mem_t2 119 (by decide +kernel) (by decide +kernel)
theorem wi_357 : (Cond.methodLink "SmokeRings" (97 : Nat) ({ cls := "SmokeRings$Chances", name := "<init>", desc := "(LSmokeRings$Valley;LSmokeRings$Night;LSmokeRings$Night;LSmokeRings$Play;)V" } : MethodName)) ∈ gW := mem_t2 117 (by decide +kernel) (by decide +kernel)
theorem im_RX11_97 : ic_MI RX11 97 yX0_init cX0_init 5 4 := ⟨wi_357, wi_358, wm_14, wi_359, rfl, ⟨by decide +kernel, by decide +kernel⟩, by decide +kernel⟩
theorem ip_RX11_98 : ic_FP RX11 98 11 9 (tyX11 9) := ⟨(RX11, TX11, 13), tyX11, rfl, by decide, uw_11, wm_404, tyX11_ok, nmX11, rfl, rfl⟩
