theorem amet_eq {d : Nat} {y : MethodName} {b : ByteArray} {n : Nat} {ret : Option FieldType} {lay : List lyE} {av : List Value} {M : Mem} {ρ : Type} {Qc : amQ ρ} {F F' : Option ρ} (h : F = F') (m : AMet d y b n ret lay av M Qc F) : AMet d y b n ret lay av M Qc F' := h ▸ m
theorem amet_lp {d : Nat} {y : MethodName} {b : ByteArray} {n : Nat} {ret : Option FieldType} {lay : List lyE} {av : List Value} {M : Mem} {r : Int64} (h : AMet d y b n ret lay av M (qLp lay M) (some r)) : AMet d y b n ret lay av M (qL lay) (some (r, M)) := by
  intro l D K ad sz t ht
  cases ht
  exact h l D K ad sz r rfl
theorem km_L_13 : Cond.methodLink R_law 13 yX7_row ∈ lw_t := lw_in (List.mem_of_getElem? (i := 347) (by decide +kernel)) rfl
theorem km_L_17 : Cond.methodLink R_law 17 yX8_row ∈ lw_t := lw_in (List.mem_of_getElem? (i := 1151) (by decide +kernel)) rfl
theorem km_L_18 : Cond.methodLink R_law 18 yX7_set ∈ lw_t := lw_in (List.mem_of_getElem? (i := 370) (by decide +kernel)) rfl
theorem km_L_21 : Cond.methodLink R_law 21 yX8_set ∈ lw_t := lw_in (List.mem_of_getElem? (i := 1173) (by decide +kernel)) rfl
theorem km_L_22 : Cond.methodLink R_law 22 yX7_copy ∈ lw_t := lw_in (List.mem_of_getElem? (i := 391) (by decide +kernel)) rfl
theorem km_L_26 : Cond.methodLink R_law 26 yX8_copy ∈ lw_t := lw_in (List.mem_of_getElem? (i := 1180) (by decide +kernel)) rfl
theorem km_L_27 : Cond.methodLink R_law 27 yX7_drop ∈ lw_t := lw_in (List.mem_of_getElem? (i := 406) (by decide +kernel)) rfl
theorem km_L_31 : Cond.methodLink R_law 31 yX8_drop ∈ lw_t := lw_in (List.mem_of_getElem? (i := 1188) (by decide +kernel)) rfl
theorem km_L_32 : Cond.methodLink R_law 32 yX7_feed ∈ lw_t := lw_in (List.mem_of_getElem? (i := 414) (by decide +kernel)) rfl
theorem km_L_35 : Cond.methodLink R_law 35 yX8_feed ∈ lw_t := lw_in (List.mem_of_getElem? (i := 1192) (by decide +kernel)) rfl
theorem km_L_36 : Cond.methodLink R_law 36 yX7_hall ∈ lw_t := lw_in (List.mem_of_getElem? (i := 428) (by decide +kernel)) rfl
theorem km_L_40 : Cond.methodLink R_law 40 yX8_hall ∈ lw_t := lw_in (List.mem_of_getElem? (i := 1198) (by decide +kernel)) rfl
theorem km_L_41 : Cond.methodLink R_law 41 yX7_fault ∈ lw_t := lw_in (List.mem_of_getElem? (i := 583) (by decide +kernel)) rfl
theorem km_L_44 : Cond.methodLink R_law 44 yX8_fault ∈ lw_t := lw_in (List.mem_of_getElem? (i := 1247) (by decide +kernel)) rfl
theorem km_L_45 : Cond.methodLink R_law 45 yX7_undo ∈ lw_t := lw_in (List.mem_of_getElem? (i := 587) (by decide +kernel)) rfl
theorem km_L_48 : Cond.methodLink R_law 48 yX8_undo ∈ lw_t := lw_in (List.mem_of_getElem? (i := 1251) (by decide +kernel)) rfl
theorem km_L_49 : Cond.methodLink R_law 49 yX7_ticks ∈ lw_t := lw_in (List.mem_of_getElem? (i := 616) (by decide +kernel)) rfl
theorem km_L_52 : Cond.methodLink R_law 52 yX8_ticks ∈ lw_t := lw_in (List.mem_of_getElem? (i := 1256) (by decide +kernel)) rfl
theorem km_L_53 : Cond.methodLink R_law 53 yX7_move ∈ lw_t := lw_in (List.mem_of_getElem? (i := 708) (by decide +kernel)) rfl
theorem km_L_57 : Cond.methodLink R_law 57 yX8_move ∈ lw_t := lw_in (List.mem_of_getElem? (i := 1308) (by decide +kernel)) rfl
theorem km_L_58 : Cond.methodLink R_law 58 yX7_paint ∈ lw_t := lw_in (List.mem_of_getElem? (i := 721) (by decide +kernel)) rfl
theorem km_L_61 : Cond.methodLink R_law 61 yX8_paint ∈ lw_t := lw_in (List.mem_of_getElem? (i := 1320) (by decide +kernel)) rfl
theorem km_L_62 : Cond.methodLink R_law 62 yX7_back ∈ lw_t := lw_in (List.mem_of_getElem? (i := 725) (by decide +kernel)) rfl
theorem km_L_65 : Cond.methodLink R_law 65 yX8_back ∈ lw_t := lw_in (List.mem_of_getElem? (i := 1325) (by decide +kernel)) rfl
theorem km_L_66 : Cond.methodLink R_law 66 yX7_turn ∈ lw_t := lw_in (List.mem_of_getElem? (i := 734) (by decide +kernel)) rfl
theorem km_L_69 : Cond.methodLink R_law 69 yX8_turn ∈ lw_t := lw_in (List.mem_of_getElem? (i := 1333) (by decide +kernel)) rfl
theorem km_L_70 : Cond.methodLink R_law 70 yX7_traveller ∈ lw_t := lw_in (List.mem_of_getElem? (i := 745) (by decide +kernel)) rfl
theorem km_L_73 : Cond.methodLink R_law 73 yX8_traveller ∈ lw_t := lw_in (List.mem_of_getElem? (i := 1344) (by decide +kernel)) rfl
theorem km_L_74 : Cond.methodLink R_law 74 yX7_bag ∈ lw_t := lw_in (List.mem_of_getElem? (i := 751) (by decide +kernel)) rfl
theorem km_L_77 : Cond.methodLink R_law 77 yX8_bag ∈ lw_t := lw_in (List.mem_of_getElem? (i := 1356) (by decide +kernel)) rfl
theorem km_L_78 : Cond.methodLink R_law 78 yX7_stand ∈ lw_t := lw_in (List.mem_of_getElem? (i := 759) (by decide +kernel)) rfl
theorem km_L_81 : Cond.methodLink R_law 81 yX8_stand ∈ lw_t := lw_in (List.mem_of_getElem? (i := 1360) (by decide +kernel)) rfl
theorem km_L_82 : Cond.methodLink R_law 82 yX7_place ∈ lw_t := lw_in (List.mem_of_getElem? (i := 763) (by decide +kernel)) rfl
theorem km_L_85 : Cond.methodLink R_law 85 yX8_place ∈ lw_t := lw_in (List.mem_of_getElem? (i := 1376) (by decide +kernel)) rfl
theorem km_L_86 : Cond.methodLink R_law 86 yX7_ahead ∈ lw_t := lw_in (List.mem_of_getElem? (i := 768) (by decide +kernel)) rfl
theorem km_L_89 : Cond.methodLink R_law 89 yX8_ahead ∈ lw_t := lw_in (List.mem_of_getElem? (i := 1380) (by decide +kernel)) rfl
theorem km_L_90 : Cond.methodLink R_law 90 yX7_with ∈ lw_t := lw_in (List.mem_of_getElem? (i := 782) (by decide +kernel)) rfl
theorem km_L_93 : Cond.methodLink R_law 93 yX8_with ∈ lw_t := lw_in (List.mem_of_getElem? (i := 1389) (by decide +kernel)) rfl
theorem km_L_94 : Cond.methodLink R_law 94 yX7_all ∈ lw_t := lw_in (List.mem_of_getElem? (i := 789) (by decide +kernel)) rfl
theorem km_L_97 : Cond.methodLink R_law 97 yX8_all ∈ lw_t := lw_in (List.mem_of_getElem? (i := 1393) (by decide +kernel)) rfl
theorem km_L_98 : Cond.methodLink R_law 98 yX7_when ∈ lw_t := lw_in (List.mem_of_getElem? (i := 793) (by decide +kernel)) rfl
theorem km_L_101 : Cond.methodLink R_law 101 yX8_when ∈ lw_t := lw_in (List.mem_of_getElem? (i := 1397) (by decide +kernel)) rfl
theorem km_L_102 : Cond.methodLink R_law 102 yX7_empty ∈ lw_t := lw_in (List.mem_of_getElem? (i := 803) (by decide +kernel)) rfl
theorem km_L_105 : Cond.methodLink R_law 105 yX8_empty ∈ lw_t := lw_in (List.mem_of_getElem? (i := 1401) (by decide +kernel)) rfl
theorem km_L_106 : Cond.methodLink R_law 106 yX7_best ∈ lw_t := lw_in (List.mem_of_getElem? (i := 812) (by decide +kernel)) rfl
theorem km_L_109 : Cond.methodLink R_law 109 yX8_best ∈ lw_t := lw_in (List.mem_of_getElem? (i := 1405) (by decide +kernel)) rfl
theorem km_L_110 : Cond.methodLink R_law 110 yX7_order ∈ lw_t := lw_in (List.mem_of_getElem? (i := 825) (by decide +kernel)) rfl
theorem km_L_113 : Cond.methodLink R_law 113 yX8_order ∈ lw_t := lw_in (List.mem_of_getElem? (i := 1413) (by decide +kernel)) rfl
theorem km_L_114 : Cond.methodLink R_law 114 yX7_marks ∈ lw_t := lw_in (List.mem_of_getElem? (i := 887) (by decide +kernel)) rfl
theorem km_L_117 : Cond.methodLink R_law 117 yX8_marks ∈ lw_t := lw_in (List.mem_of_getElem? (i := 1430) (by decide +kernel)) rfl
theorem km_L_118 : Cond.methodLink R_law 118 yX7_sets ∈ lw_t := lw_in (List.mem_of_getElem? (i := 900) (by decide +kernel)) rfl
theorem km_L_121 : Cond.methodLink R_law 121 yX8_sets ∈ lw_t := lw_in (List.mem_of_getElem? (i := 1434) (by decide +kernel)) rfl
theorem km_L_122 : Cond.methodLink R_law 122 yX7_share ∈ lw_t := lw_in (List.mem_of_getElem? (i := 912) (by decide +kernel)) rfl
theorem km_L_125 : Cond.methodLink R_law 125 yX8_share ∈ lw_t := lw_in (List.mem_of_getElem? (i := 1443) (by decide +kernel)) rfl
theorem km_L_126 : Cond.methodLink R_law 126 yX7_byTurns ∈ lw_t := lw_in (List.mem_of_getElem? (i := 921) (by decide +kernel)) rfl
theorem km_L_129 : Cond.methodLink R_law 129 yX8_byTurns ∈ lw_t := lw_in (List.mem_of_getElem? (i := 1448) (by decide +kernel)) rfl
theorem km_L_130 : Cond.methodLink R_law 130 yX7_who ∈ lw_t := lw_in (List.mem_of_getElem? (i := 932) (by decide +kernel)) rfl
theorem km_L_134 : Cond.methodLink R_law 134 yX8_who ∈ lw_t := lw_in (List.mem_of_getElem? (i := 1453) (by decide +kernel)) rfl
theorem km_L_135 : Cond.methodLink R_law 135 yX7_colours ∈ lw_t := lw_in (List.mem_of_getElem? (i := 961) (by decide +kernel)) rfl
theorem km_L_139 : Cond.methodLink R_law 139 yX8_colours ∈ lw_t := lw_in (List.mem_of_getElem? (i := 1466) (by decide +kernel)) rfl
theorem km_L_140 : Cond.methodLink R_law 140 yX7_sleep ∈ lw_t := lw_in (List.mem_of_getElem? (i := 969) (by decide +kernel)) rfl
theorem km_L_144 : Cond.methodLink R_law 144 yX8_sleep ∈ lw_t := lw_in (List.mem_of_getElem? (i := 1470) (by decide +kernel)) rfl
theorem km_L_145 : Cond.methodLink R_law 145 yX7_drawn ∈ lw_t := lw_in (List.mem_of_getElem? (i := 986) (by decide +kernel)) rfl
theorem km_L_148 : Cond.methodLink R_law 148 yX8_drawn ∈ lw_t := lw_in (List.mem_of_getElem? (i := 1476) (by decide +kernel)) rfl
theorem km_L_149 : Cond.methodLink R_law 149 yX7_image ∈ lw_t := lw_in (List.mem_of_getElem? (i := 1004) (by decide +kernel)) rfl
theorem km_L_152 : Cond.methodLink R_law 152 yX8_image ∈ lw_t := lw_in (List.mem_of_getElem? (i := 1483) (by decide +kernel)) rfl
theorem km_L_153 : Cond.methodLink R_law 153 yX7_restore ∈ lw_t := lw_in (List.mem_of_getElem? (i := 1009) (by decide +kernel)) rfl
theorem km_L_156 : Cond.methodLink R_law 156 yX8_restore ∈ lw_t := lw_in (List.mem_of_getElem? (i := 1487) (by decide +kernel)) rfl
theorem km_L_157 : Cond.methodLink R_law 157 yX7_kind ∈ lw_t := lw_in (List.mem_of_getElem? (i := 1014) (by decide +kernel)) rfl
theorem km_L_160 : Cond.methodLink R_law 160 yX8_kind ∈ lw_t := lw_in (List.mem_of_getElem? (i := 1491) (by decide +kernel)) rfl
theorem km_L_161 : Cond.methodLink R_law 161 yX7_as ∈ lw_t := lw_in (List.mem_of_getElem? (i := 1018) (by decide +kernel)) rfl
theorem km_L_164 : Cond.methodLink R_law 164 yX8_as ∈ lw_t := lw_in (List.mem_of_getElem? (i := 1495) (by decide +kernel)) rfl
theorem km_L_165 : Cond.methodLink R_law 165 yX7_ask ∈ lw_t := lw_in (List.mem_of_getElem? (i := 1030) (by decide +kernel)) rfl
theorem km_L_168 : Cond.methodLink R_law 168 yX8_ask ∈ lw_t := lw_in (List.mem_of_getElem? (i := 1504) (by decide +kernel)) rfl
theorem km_L_169 : Cond.methodLink R_law 169 yX7_trace ∈ lw_t := lw_in (List.mem_of_getElem? (i := 1055) (by decide +kernel)) rfl
theorem km_L_172 : Cond.methodLink R_law 172 yX8_trace ∈ lw_t := lw_in (List.mem_of_getElem? (i := 1544) (by decide +kernel)) rfl
theorem km_L_173 : Cond.methodLink R_law 173 yX7_count ∈ lw_t := lw_in (List.mem_of_getElem? (i := 1063) (by decide +kernel)) rfl
theorem km_L_176 : Cond.methodLink R_law 176 yX8_count ∈ lw_t := lw_in (List.mem_of_getElem? (i := 1548) (by decide +kernel)) rfl
theorem km_L_177 : Cond.methodLink R_law 177 yX7_status ∈ lw_t := lw_in (List.mem_of_getElem? (i := 1076) (by decide +kernel)) rfl
theorem km_L_180 : Cond.methodLink R_law 180 yX8_status ∈ lw_t := lw_in (List.mem_of_getElem? (i := 1552) (by decide +kernel)) rfl
theorem lw_case_row {E : lwE} (C : lwC E) {Inv : Mem → Mem → Prop} (hk : ok_row Inv) {n : Nat} {i : Int32} (hi : i = nI n) (hn : n + 6 < oT E) {Mx Mm : Mem} (hI : Inv Mx Mm) (k : ∀ Mx' Mm', Inv Mx' Mm' → LW E 1451 i [] Mx' Mm') : LW E 208 i [] Mx Mm := by
  obtain ⟨r, Mx', Mm', h1, h2, h3⟩ := hk Mx Mm (oV E (n + 1)) (oV E (n + 2)) (oV E (n + 3)) hI
  refine lw_aload1 C dL_law_208 ?_
  refine lw_arg C 1 hi (by omega) dL_law_209 dL_law_210 dL_law_211 dL_law_212 dL_law_213 ?_
  refine lw_arg C 2 hi (by omega) dL_law_214 dL_law_215 dL_law_216 dL_law_217 dL_law_218 ?_
  refine lw_arg C 3 hi (by omega) dL_law_219 dL_law_220 dL_law_221 dL_law_222 dL_law_223 ?_
  refine lw_callXI C [.int (oV E (n + 1)), .int (oV E (n + 2)), .int (oV E (n + 3))] [] (amet_eq h1 (m_X7_row (oV E (n + 1)) (oV E (n + 2)) (oV E (n + 3)) Mx)) (by intro v hv; simp only [List.mem_cons, List.not_mem_nil, or_false] at hv; rcases hv with rfl | rfl | rfl <;> exact ⟨_, rfl⟩) v_X7_row km_L_13 (by decide) rfl rfl (Nat.le_of_ble_eq_true rfl) dL_law_224 ?_
  refine lw_aload2 C dL_law_227 ?_
  refine lw_arg C 1 hi (by omega) dL_law_228 dL_law_229 dL_law_230 dL_law_231 dL_law_232 ?_
  refine lw_arg C 2 hi (by omega) dL_law_233 dL_law_234 dL_law_235 dL_law_236 dL_law_237 ?_
  refine lw_arg C 3 hi (by omega) dL_law_238 dL_law_239 dL_law_240 dL_law_241 dL_law_242 ?_
  refine lw_callMI C [.int (oV E (n + 1)), .int (oV E (n + 2)), .int (oV E (n + 3))] [.int r] (amet_eq h2 (m_X8_row (oV E (n + 1)) (oV E (n + 2)) (oV E (n + 3)) Mm)) (by intro v hv; simp only [List.mem_cons, List.not_mem_nil, or_false] at hv; rcases hv with rfl | rfl | rfl <;> exact ⟨_, rfl⟩) v_X8_row km_L_17 (by decide) rfl rfl (Nat.le_of_ble_eq_true rfl) dL_law_243 ?_
  refine lw_eq C rfl dL_law_246 (by decide) ?_
  exact k Mx' Mm' h3
theorem lw_case_set {E : lwE} (C : lwC E) {Inv : Mem → Mem → Prop} (hk : ok_set Inv) {n : Nat} {i : Int32} (hi : i = nI n) (hn : n + 6 < oT E) {Mx Mm : Mem} (hI : Inv Mx Mm) (k : ∀ Mx' Mm', Inv Mx' Mm' → LW E 1451 i [] Mx' Mm') : LW E 251 i [] Mx Mm := by
  obtain ⟨r, Mx', Mm', h1, h2, h3⟩ := hk Mx Mm (oV E (n + 1)) (oV E (n + 2)) (oV E (n + 3)) hI
  refine lw_aload1 C dL_law_251 ?_
  refine lw_arg C 1 hi (by omega) dL_law_252 dL_law_253 dL_law_254 dL_law_255 dL_law_256 ?_
  refine lw_arg C 2 hi (by omega) dL_law_257 dL_law_258 dL_law_259 dL_law_260 dL_law_261 ?_
  refine lw_arg C 3 hi (by omega) dL_law_262 dL_law_263 dL_law_264 dL_law_265 dL_law_266 ?_
  refine lw_callXI C [.int (oV E (n + 1)), .int (oV E (n + 2)), .int (oV E (n + 3))] [] (amet_eq h1 (m_X7_set (oV E (n + 1)) (oV E (n + 2)) (oV E (n + 3)) Mx)) (by intro v hv; simp only [List.mem_cons, List.not_mem_nil, or_false] at hv; rcases hv with rfl | rfl | rfl <;> exact ⟨_, rfl⟩) v_X7_set km_L_18 (by decide) rfl rfl (Nat.le_of_ble_eq_true rfl) dL_law_267 ?_
  refine lw_aload2 C dL_law_270 ?_
  refine lw_arg C 1 hi (by omega) dL_law_271 dL_law_272 dL_law_273 dL_law_274 dL_law_275 ?_
  refine lw_arg C 2 hi (by omega) dL_law_276 dL_law_277 dL_law_278 dL_law_279 dL_law_280 ?_
  refine lw_arg C 3 hi (by omega) dL_law_281 dL_law_282 dL_law_283 dL_law_284 dL_law_285 ?_
  refine lw_callMI C [.int (oV E (n + 1)), .int (oV E (n + 2)), .int (oV E (n + 3))] [.int r] (amet_eq h2 (m_X8_set (oV E (n + 1)) (oV E (n + 2)) (oV E (n + 3)) Mm)) (by intro v hv; simp only [List.mem_cons, List.not_mem_nil, or_false] at hv; rcases hv with rfl | rfl | rfl <;> exact ⟨_, rfl⟩) v_X8_set km_L_21 (by decide) rfl rfl (Nat.le_of_ble_eq_true rfl) dL_law_286 ?_
  refine lw_eq C rfl dL_law_289 (by decide) ?_
  exact k Mx' Mm' h3
theorem lw_case_copy {E : lwE} (C : lwC E) {Inv : Mem → Mem → Prop} (hk : ok_copy Inv) {n : Nat} {i : Int32} (hi : i = nI n) (hn : n + 6 < oT E) {Mx Mm : Mem} (hI : Inv Mx Mm) (k : ∀ Mx' Mm', Inv Mx' Mm' → LW E 1451 i [] Mx' Mm') : LW E 294 i [] Mx Mm := by
  obtain ⟨r, Mx', Mm', h1, h2, h3⟩ := hk Mx Mm (oV E (n + 1)) (oV E (n + 2)) (oV E (n + 3)) (oV E (n + 4)) (oV E (n + 5)) hI
  refine lw_aload1 C dL_law_294 ?_
  refine lw_arg C 1 hi (by omega) dL_law_295 dL_law_296 dL_law_297 dL_law_298 dL_law_299 ?_
  refine lw_arg C 2 hi (by omega) dL_law_300 dL_law_301 dL_law_302 dL_law_303 dL_law_304 ?_
  refine lw_arg C 3 hi (by omega) dL_law_305 dL_law_306 dL_law_307 dL_law_308 dL_law_309 ?_
  refine lw_arg C 4 hi (by omega) dL_law_310 dL_law_311 dL_law_312 dL_law_313 dL_law_314 ?_
  refine lw_arg C 5 hi (by omega) dL_law_315 dL_law_316 dL_law_317 dL_law_318 dL_law_319 ?_
  refine lw_callXI C [.int (oV E (n + 1)), .int (oV E (n + 2)), .int (oV E (n + 3)), .int (oV E (n + 4)), .int (oV E (n + 5))] [] (amet_eq h1 (m_X7_copy (oV E (n + 1)) (oV E (n + 2)) (oV E (n + 3)) (oV E (n + 4)) (oV E (n + 5)) Mx)) (by intro v hv; simp only [List.mem_cons, List.not_mem_nil, or_false] at hv; rcases hv with rfl | rfl | rfl | rfl | rfl <;> exact ⟨_, rfl⟩) v_X7_copy km_L_22 (by decide) rfl rfl (Nat.le_of_ble_eq_true rfl) dL_law_320 ?_
  refine lw_aload2 C dL_law_323 ?_
  refine lw_arg C 1 hi (by omega) dL_law_324 dL_law_325 dL_law_326 dL_law_327 dL_law_328 ?_
  refine lw_arg C 2 hi (by omega) dL_law_329 dL_law_330 dL_law_331 dL_law_332 dL_law_333 ?_
  refine lw_arg C 3 hi (by omega) dL_law_334 dL_law_335 dL_law_336 dL_law_337 dL_law_338 ?_
  refine lw_arg C 4 hi (by omega) dL_law_339 dL_law_340 dL_law_341 dL_law_342 dL_law_343 ?_
  refine lw_arg C 5 hi (by omega) dL_law_344 dL_law_345 dL_law_346 dL_law_347 dL_law_348 ?_
  refine lw_callMI C [.int (oV E (n + 1)), .int (oV E (n + 2)), .int (oV E (n + 3)), .int (oV E (n + 4)), .int (oV E (n + 5))] [.int r] (amet_eq h2 (m_X8_copy (oV E (n + 1)) (oV E (n + 2)) (oV E (n + 3)) (oV E (n + 4)) (oV E (n + 5)) Mm)) (by intro v hv; simp only [List.mem_cons, List.not_mem_nil, or_false] at hv; rcases hv with rfl | rfl | rfl | rfl | rfl <;> exact ⟨_, rfl⟩) v_X8_copy km_L_26 (by decide) rfl rfl (Nat.le_of_ble_eq_true rfl) dL_law_349 ?_
  refine lw_eq C rfl dL_law_352 (by decide) ?_
  exact k Mx' Mm' h3
theorem lw_case_drop {E : lwE} (C : lwC E) {Inv : Mem → Mem → Prop} (hk : ok_drop Inv) {n : Nat} {i : Int32} (hi : i = nI n) (hn : n + 6 < oT E) {Mx Mm : Mem} (hI : Inv Mx Mm) (k : ∀ Mx' Mm', Inv Mx' Mm' → LW E 1451 i [] Mx' Mm') : LW E 357 i [] Mx Mm := by
  obtain ⟨r, Mx', Mm', h1, h2, h3⟩ := hk Mx Mm (oV E (n + 1)) hI
  refine lw_aload1 C dL_law_357 ?_
  refine lw_arg C 1 hi (by omega) dL_law_358 dL_law_359 dL_law_360 dL_law_361 dL_law_362 ?_
  refine lw_callXI C [.int (oV E (n + 1))] [] (amet_eq h1 (m_X7_drop (oV E (n + 1)) Mx)) (by intro v hv; simp only [List.mem_cons, List.not_mem_nil, or_false] at hv; subst hv; exact ⟨_, rfl⟩) v_X7_drop km_L_27 (by decide) rfl rfl (Nat.le_of_ble_eq_true rfl) dL_law_363 ?_
  refine lw_aload2 C dL_law_366 ?_
  refine lw_arg C 1 hi (by omega) dL_law_367 dL_law_368 dL_law_369 dL_law_370 dL_law_371 ?_
  refine lw_callMI C [.int (oV E (n + 1))] [.int r] (amet_eq h2 (m_X8_drop (oV E (n + 1)) Mm)) (by intro v hv; simp only [List.mem_cons, List.not_mem_nil, or_false] at hv; subst hv; exact ⟨_, rfl⟩) v_X8_drop km_L_31 (by decide) rfl rfl (Nat.le_of_ble_eq_true rfl) dL_law_372 ?_
  refine lw_eq C rfl dL_law_375 (by decide) ?_
  exact k Mx' Mm' h3
theorem lw_case_feed {E : lwE} (C : lwC E) {Inv : Mem → Mem → Prop} (hk : ok_feed Inv) {n : Nat} {i : Int32} (hi : i = nI n) (hn : n + 6 < oT E) {Mx Mm : Mem} (hI : Inv Mx Mm) (k : ∀ Mx' Mm', Inv Mx' Mm' → LW E 1451 i [] Mx' Mm') : LW E 380 i [] Mx Mm := by
  obtain ⟨r, Mx', Mm', h1, h2, h3⟩ := hk Mx Mm (oV E (n + 1)) hI
  refine lw_aload1 C dL_law_380 ?_
  refine lw_arg C 1 hi (by omega) dL_law_381 dL_law_382 dL_law_383 dL_law_384 dL_law_385 ?_
  refine lw_callXI C [.int (oV E (n + 1))] [] (amet_eq h1 (m_X7_feed (oV E (n + 1)) Mx)) (by intro v hv; simp only [List.mem_cons, List.not_mem_nil, or_false] at hv; subst hv; exact ⟨_, rfl⟩) v_X7_feed km_L_32 (by decide) rfl rfl (Nat.le_of_ble_eq_true rfl) dL_law_386 ?_
  refine lw_aload2 C dL_law_389 ?_
  refine lw_arg C 1 hi (by omega) dL_law_390 dL_law_391 dL_law_392 dL_law_393 dL_law_394 ?_
  refine lw_callMI C [.int (oV E (n + 1))] [.int r] (amet_eq h2 (m_X8_feed (oV E (n + 1)) Mm)) (by intro v hv; simp only [List.mem_cons, List.not_mem_nil, or_false] at hv; subst hv; exact ⟨_, rfl⟩) v_X8_feed km_L_35 (by decide) rfl rfl (Nat.le_of_ble_eq_true rfl) dL_law_395 ?_
  refine lw_eq C rfl dL_law_398 (by decide) ?_
  exact k Mx' Mm' h3
theorem lw_case_hall {E : lwE} (C : lwC E) {Inv : Mem → Mem → Prop} (hk : ok_hall Inv) {n : Nat} {i : Int32} (hi : i = nI n) (hn : n + 6 < oT E) {Mx Mm : Mem} (hI : Inv Mx Mm) (k : ∀ Mx' Mm', Inv Mx' Mm' → LW E 1451 i [] Mx' Mm') : LW E 403 i [] Mx Mm := by
  obtain ⟨r, Mx', Mm', h1, h2, h3⟩ := hk Mx Mm  hI
  refine lw_aload1 C dL_law_403 ?_
  refine lw_callXI C [] [] (amet_eq h1 (m_X7_hall  Mx)) (fun v hv => by cases hv) v_X7_hall km_L_36 (by decide) rfl rfl (Nat.le_of_ble_eq_true rfl) dL_law_404 ?_
  refine lw_aload2 C dL_law_407 ?_
  refine lw_callMI C [] [.int r] (amet_eq h2 (m_X8_hall  Mm)) (fun v hv => by cases hv) v_X8_hall km_L_40 (by decide) rfl rfl (Nat.le_of_ble_eq_true rfl) dL_law_408 ?_
  refine lw_eq C rfl dL_law_411 (by decide) ?_
  exact k Mx' Mm' h3
theorem lw_case_fault {E : lwE} (C : lwC E) {Inv : Mem → Mem → Prop} (hk : ok_fault Inv) {n : Nat} {i : Int32} (hi : i = nI n) (hn : n + 6 < oT E) {Mx Mm : Mem} (hI : Inv Mx Mm) (k : ∀ Mx' Mm', Inv Mx' Mm' → LW E 1451 i [] Mx' Mm') : LW E 416 i [] Mx Mm := by
  obtain ⟨r, h1, h2, h3⟩ := hk Mx Mm  hI
  refine lw_aload1 C dL_law_416 ?_
  refine lw_callXI C [] [] (amet_p (amet_eq h1 (m_X7_fault Mx ))) (fun v hv => by cases hv) v_X7_fault km_L_41 (by decide) rfl rfl (Nat.le_of_ble_eq_true rfl) dL_law_417 ?_
  refine lw_aload2 C dL_law_420 ?_
  refine lw_callMI C [] [.int r] (amet_p (amet_eq h2 (m_X8_fault Mm ))) (fun v hv => by cases hv) v_X8_fault km_L_44 (by decide) rfl rfl (Nat.le_of_ble_eq_true rfl) dL_law_421 ?_
  refine lw_eq C rfl dL_law_424 (by decide) ?_
  exact k Mx Mm h3
theorem lw_case_undo {E : lwE} (C : lwC E) {Inv : Mem → Mem → Prop} (hk : ok_undo Inv) {n : Nat} {i : Int32} (hi : i = nI n) (hn : n + 6 < oT E) {Mx Mm : Mem} (hI : Inv Mx Mm) (k : ∀ Mx' Mm', Inv Mx' Mm' → LW E 1451 i [] Mx' Mm') : LW E 429 i [] Mx Mm := by
  obtain ⟨r, Mx', Mm', h1, h2, h3⟩ := hk Mx Mm  hI
  refine lw_aload1 C dL_law_429 ?_
  refine lw_callXI C [] [] (amet_eq h1 (m_X7_undo  Mx)) (fun v hv => by cases hv) v_X7_undo km_L_45 (by decide) rfl rfl (Nat.le_of_ble_eq_true rfl) dL_law_430 ?_
  refine lw_aload2 C dL_law_433 ?_
  refine lw_callMI C [] [.int r] (amet_eq h2 (m_X8_undo  Mm)) (fun v hv => by cases hv) v_X8_undo km_L_48 (by decide) rfl rfl (Nat.le_of_ble_eq_true rfl) dL_law_434 ?_
  refine lw_eq C rfl dL_law_437 (by decide) ?_
  exact k Mx' Mm' h3
theorem lw_case_ticks {E : lwE} (C : lwC E) {Inv : Mem → Mem → Prop} (hk : ok_ticks Inv) {n : Nat} {i : Int32} (hi : i = nI n) (hn : n + 6 < oT E) {Mx Mm : Mem} (hI : Inv Mx Mm) (k : ∀ Mx' Mm', Inv Mx' Mm' → LW E 1451 i [] Mx' Mm') : LW E 442 i [] Mx Mm := by
  obtain ⟨r, Mx', Mm', h1, h2, h3⟩ := hk Mx Mm (oV E (n + 1)) hI
  refine lw_aload1 C dL_law_442 ?_
  refine lw_arg C 1 hi (by omega) dL_law_443 dL_law_444 dL_law_445 dL_law_446 dL_law_447 ?_
  refine lw_callXI C [.int (oV E (n + 1))] [] (amet_eq h1 (m_X7_ticks (oV E (n + 1)) Mx)) (by intro v hv; simp only [List.mem_cons, List.not_mem_nil, or_false] at hv; subst hv; exact ⟨_, rfl⟩) v_X7_ticks km_L_49 (by decide) rfl rfl (Nat.le_of_ble_eq_true rfl) dL_law_448 ?_
  refine lw_aload2 C dL_law_451 ?_
  refine lw_arg C 1 hi (by omega) dL_law_452 dL_law_453 dL_law_454 dL_law_455 dL_law_456 ?_
  refine lw_callMI C [.int (oV E (n + 1))] [.int r] (amet_eq h2 (m_X8_ticks (oV E (n + 1)) Mm)) (by intro v hv; simp only [List.mem_cons, List.not_mem_nil, or_false] at hv; subst hv; exact ⟨_, rfl⟩) v_X8_ticks km_L_52 (by decide) rfl rfl (Nat.le_of_ble_eq_true rfl) dL_law_457 ?_
  refine lw_eq C rfl dL_law_460 (by decide) ?_
  exact k Mx' Mm' h3
theorem lw_case_move {E : lwE} (C : lwC E) {Inv : Mem → Mem → Prop} (hk : ok_move Inv) {n : Nat} {i : Int32} (hi : i = nI n) (hn : n + 6 < oT E) {Mx Mm : Mem} (hI : Inv Mx Mm) (k : ∀ Mx' Mm', Inv Mx' Mm' → LW E 1451 i [] Mx' Mm') : LW E 465 i [] Mx Mm := by
  obtain ⟨r, Mx', Mm', h1, h2, h3⟩ := hk Mx Mm (oV E (n + 1)) (oV E (n + 2)) hI
  refine lw_aload1 C dL_law_465 ?_
  refine lw_arg C 1 hi (by omega) dL_law_466 dL_law_467 dL_law_468 dL_law_469 dL_law_470 ?_
  refine lw_arg C 2 hi (by omega) dL_law_471 dL_law_472 dL_law_473 dL_law_474 dL_law_475 ?_
  refine lw_callXI C [.int (oV E (n + 1)), .int (oV E (n + 2))] [] (amet_eq h1 (m_X7_move (oV E (n + 1)) (oV E (n + 2)) Mx)) (by intro v hv; simp only [List.mem_cons, List.not_mem_nil, or_false] at hv; rcases hv with rfl | rfl <;> exact ⟨_, rfl⟩) v_X7_move km_L_53 (by decide) rfl rfl (Nat.le_of_ble_eq_true rfl) dL_law_476 ?_
  refine lw_aload2 C dL_law_479 ?_
  refine lw_arg C 1 hi (by omega) dL_law_480 dL_law_481 dL_law_482 dL_law_483 dL_law_484 ?_
  refine lw_arg C 2 hi (by omega) dL_law_485 dL_law_486 dL_law_487 dL_law_488 dL_law_489 ?_
  refine lw_callMI C [.int (oV E (n + 1)), .int (oV E (n + 2))] [.int r] (amet_eq h2 (m_X8_move (oV E (n + 1)) (oV E (n + 2)) Mm)) (by intro v hv; simp only [List.mem_cons, List.not_mem_nil, or_false] at hv; rcases hv with rfl | rfl <;> exact ⟨_, rfl⟩) v_X8_move km_L_57 (by decide) rfl rfl (Nat.le_of_ble_eq_true rfl) dL_law_490 ?_
  refine lw_eq C rfl dL_law_493 (by decide) ?_
  exact k Mx' Mm' h3
theorem lw_case_paint {E : lwE} (C : lwC E) {Inv : Mem → Mem → Prop} (hk : ok_paint Inv) {n : Nat} {i : Int32} (hi : i = nI n) (hn : n + 6 < oT E) {Mx Mm : Mem} (hI : Inv Mx Mm) (k : ∀ Mx' Mm', Inv Mx' Mm' → LW E 1451 i [] Mx' Mm') : LW E 498 i [] Mx Mm := by
  obtain ⟨r, Mx', Mm', h1, h2, h3⟩ := hk Mx Mm (oV E (n + 1)) (oV E (n + 2)) hI
  refine lw_aload1 C dL_law_498 ?_
  refine lw_arg C 1 hi (by omega) dL_law_499 dL_law_500 dL_law_501 dL_law_502 dL_law_503 ?_
  refine lw_arg C 2 hi (by omega) dL_law_504 dL_law_505 dL_law_506 dL_law_507 dL_law_508 ?_
  refine lw_callXI C [.int (oV E (n + 1)), .int (oV E (n + 2))] [] (amet_eq h1 (m_X7_paint (oV E (n + 1)) (oV E (n + 2)) Mx)) (by intro v hv; simp only [List.mem_cons, List.not_mem_nil, or_false] at hv; rcases hv with rfl | rfl <;> exact ⟨_, rfl⟩) v_X7_paint km_L_58 (by decide) rfl rfl (Nat.le_of_ble_eq_true rfl) dL_law_509 ?_
  refine lw_aload2 C dL_law_512 ?_
  refine lw_arg C 1 hi (by omega) dL_law_513 dL_law_514 dL_law_515 dL_law_516 dL_law_517 ?_
  refine lw_arg C 2 hi (by omega) dL_law_518 dL_law_519 dL_law_520 dL_law_521 dL_law_522 ?_
  refine lw_callMI C [.int (oV E (n + 1)), .int (oV E (n + 2))] [.int r] (amet_eq h2 (m_X8_paint (oV E (n + 1)) (oV E (n + 2)) Mm)) (by intro v hv; simp only [List.mem_cons, List.not_mem_nil, or_false] at hv; rcases hv with rfl | rfl <;> exact ⟨_, rfl⟩) v_X8_paint km_L_61 (by decide) rfl rfl (Nat.le_of_ble_eq_true rfl) dL_law_523 ?_
  refine lw_eq C rfl dL_law_526 (by decide) ?_
  exact k Mx' Mm' h3
theorem lw_case_back {E : lwE} (C : lwC E) {Inv : Mem → Mem → Prop} (hk : ok_back Inv) {n : Nat} {i : Int32} (hi : i = nI n) (hn : n + 6 < oT E) {Mx Mm : Mem} (hI : Inv Mx Mm) (k : ∀ Mx' Mm', Inv Mx' Mm' → LW E 1451 i [] Mx' Mm') : LW E 531 i [] Mx Mm := by
  obtain ⟨r, Mx', Mm', h1, h2, h3⟩ := hk Mx Mm (oV E (n + 1)) hI
  refine lw_aload1 C dL_law_531 ?_
  refine lw_arg C 1 hi (by omega) dL_law_532 dL_law_533 dL_law_534 dL_law_535 dL_law_536 ?_
  refine lw_callXI C [.int (oV E (n + 1))] [] (amet_eq h1 (m_X7_back (oV E (n + 1)) Mx)) (by intro v hv; simp only [List.mem_cons, List.not_mem_nil, or_false] at hv; subst hv; exact ⟨_, rfl⟩) v_X7_back km_L_62 (by decide) rfl rfl (Nat.le_of_ble_eq_true rfl) dL_law_537 ?_
  refine lw_aload2 C dL_law_540 ?_
  refine lw_arg C 1 hi (by omega) dL_law_541 dL_law_542 dL_law_543 dL_law_544 dL_law_545 ?_
  refine lw_callMI C [.int (oV E (n + 1))] [.int r] (amet_eq h2 (m_X8_back (oV E (n + 1)) Mm)) (by intro v hv; simp only [List.mem_cons, List.not_mem_nil, or_false] at hv; subst hv; exact ⟨_, rfl⟩) v_X8_back km_L_65 (by decide) rfl rfl (Nat.le_of_ble_eq_true rfl) dL_law_546 ?_
  refine lw_eq C rfl dL_law_549 (by decide) ?_
  exact k Mx' Mm' h3
theorem lw_case_turn {E : lwE} (C : lwC E) {Inv : Mem → Mem → Prop} (hk : ok_turn Inv) {n : Nat} {i : Int32} (hi : i = nI n) (hn : n + 6 < oT E) {Mx Mm : Mem} (hI : Inv Mx Mm) (k : ∀ Mx' Mm', Inv Mx' Mm' → LW E 1451 i [] Mx' Mm') : LW E 554 i [] Mx Mm := by
  obtain ⟨r, Mx', Mm', h1, h2, h3⟩ := hk Mx Mm  hI
  refine lw_aload1 C dL_law_554 ?_
  refine lw_callXI C [] [] (amet_eq h1 (m_X7_turn  Mx)) (fun v hv => by cases hv) v_X7_turn km_L_66 (by decide) rfl rfl (Nat.le_of_ble_eq_true rfl) dL_law_555 ?_
  refine lw_aload2 C dL_law_558 ?_
  refine lw_callMI C [] [.int r] (amet_eq h2 (m_X8_turn  Mm)) (fun v hv => by cases hv) v_X8_turn km_L_69 (by decide) rfl rfl (Nat.le_of_ble_eq_true rfl) dL_law_559 ?_
  refine lw_eq C rfl dL_law_562 (by decide) ?_
  exact k Mx' Mm' h3
theorem lw_case_traveller {E : lwE} (C : lwC E) {Inv : Mem → Mem → Prop} (hk : ok_traveller Inv) {n : Nat} {i : Int32} (hi : i = nI n) (hn : n + 6 < oT E) {Mx Mm : Mem} (hI : Inv Mx Mm) (k : ∀ Mx' Mm', Inv Mx' Mm' → LW E 1451 i [] Mx' Mm') : LW E 567 i [] Mx Mm := by
  obtain ⟨r, h1, h2, h3⟩ := hk Mx Mm (oV E (n + 1)) (oV E (n + 2)) hI
  refine lw_aload1 C dL_law_567 ?_
  refine lw_arg C 1 hi (by omega) dL_law_568 dL_law_569 dL_law_570 dL_law_571 dL_law_572 ?_
  refine lw_arg C 2 hi (by omega) dL_law_573 dL_law_574 dL_law_575 dL_law_576 dL_law_577 ?_
  refine lw_callXI C [.int (oV E (n + 1)), .int (oV E (n + 2))] [] (amet_p (amet_eq h1 (m_X7_traveller Mx (oV E (n + 1)) (oV E (n + 2))))) (by intro v hv; simp only [List.mem_cons, List.not_mem_nil, or_false] at hv; rcases hv with rfl | rfl <;> exact ⟨_, rfl⟩) v_X7_traveller km_L_70 (by decide) rfl rfl (Nat.le_of_ble_eq_true rfl) dL_law_578 ?_
  refine lw_aload2 C dL_law_581 ?_
  refine lw_arg C 1 hi (by omega) dL_law_582 dL_law_583 dL_law_584 dL_law_585 dL_law_586 ?_
  refine lw_arg C 2 hi (by omega) dL_law_587 dL_law_588 dL_law_589 dL_law_590 dL_law_591 ?_
  refine lw_callMI C [.int (oV E (n + 1)), .int (oV E (n + 2))] [.int r] (amet_p (amet_eq h2 (m_X8_traveller Mm (oV E (n + 1)) (oV E (n + 2))))) (by intro v hv; simp only [List.mem_cons, List.not_mem_nil, or_false] at hv; rcases hv with rfl | rfl <;> exact ⟨_, rfl⟩) v_X8_traveller km_L_73 (by decide) rfl rfl (Nat.le_of_ble_eq_true rfl) dL_law_592 ?_
  refine lw_eq C rfl dL_law_595 (by decide) ?_
  exact k Mx Mm h3
theorem lw_case_bag {E : lwE} (C : lwC E) {Inv : Mem → Mem → Prop} (hk : ok_bag Inv) {n : Nat} {i : Int32} (hi : i = nI n) (hn : n + 6 < oT E) {Mx Mm : Mem} (hI : Inv Mx Mm) (k : ∀ Mx' Mm', Inv Mx' Mm' → LW E 1451 i [] Mx' Mm') : LW E 600 i [] Mx Mm := by
  obtain ⟨r, h1, h2, h3⟩ := hk Mx Mm (oV E (n + 1)) (oV E (n + 2)) hI
  refine lw_aload1 C dL_law_600 ?_
  refine lw_arg C 1 hi (by omega) dL_law_601 dL_law_602 dL_law_603 dL_law_604 dL_law_605 ?_
  refine lw_arg C 2 hi (by omega) dL_law_606 dL_law_607 dL_law_608 dL_law_609 dL_law_610 ?_
  refine lw_callXI C [.int (oV E (n + 1)), .int (oV E (n + 2))] [] (amet_p (amet_eq h1 (m_X7_bag Mx (oV E (n + 1)) (oV E (n + 2))))) (by intro v hv; simp only [List.mem_cons, List.not_mem_nil, or_false] at hv; rcases hv with rfl | rfl <;> exact ⟨_, rfl⟩) v_X7_bag km_L_74 (by decide) rfl rfl (Nat.le_of_ble_eq_true rfl) dL_law_611 ?_
  refine lw_aload2 C dL_law_614 ?_
  refine lw_arg C 1 hi (by omega) dL_law_615 dL_law_616 dL_law_617 dL_law_618 dL_law_619 ?_
  refine lw_arg C 2 hi (by omega) dL_law_620 dL_law_621 dL_law_622 dL_law_623 dL_law_624 ?_
  refine lw_callMI C [.int (oV E (n + 1)), .int (oV E (n + 2))] [.int r] (amet_p (amet_eq h2 (m_X8_bag Mm (oV E (n + 1)) (oV E (n + 2))))) (by intro v hv; simp only [List.mem_cons, List.not_mem_nil, or_false] at hv; rcases hv with rfl | rfl <;> exact ⟨_, rfl⟩) v_X8_bag km_L_77 (by decide) rfl rfl (Nat.le_of_ble_eq_true rfl) dL_law_625 ?_
  refine lw_eq C rfl dL_law_628 (by decide) ?_
  exact k Mx Mm h3
theorem lw_case_stand {E : lwE} (C : lwC E) {Inv : Mem → Mem → Prop} (hk : ok_stand Inv) {n : Nat} {i : Int32} (hi : i = nI n) (hn : n + 6 < oT E) {Mx Mm : Mem} (hI : Inv Mx Mm) (k : ∀ Mx' Mm', Inv Mx' Mm' → LW E 1451 i [] Mx' Mm') : LW E 633 i [] Mx Mm := by
  obtain ⟨r, h1, h2, h3⟩ := hk Mx Mm (oV E (n + 1)) hI
  refine lw_aload1 C dL_law_633 ?_
  refine lw_arg C 1 hi (by omega) dL_law_634 dL_law_635 dL_law_636 dL_law_637 dL_law_638 ?_
  refine lw_callXI C [.int (oV E (n + 1))] [] (amet_p (amet_eq h1 (m_X7_stand Mx (oV E (n + 1))))) (by intro v hv; simp only [List.mem_cons, List.not_mem_nil, or_false] at hv; subst hv; exact ⟨_, rfl⟩) v_X7_stand km_L_78 (by decide) rfl rfl (Nat.le_of_ble_eq_true rfl) dL_law_639 ?_
  refine lw_aload2 C dL_law_642 ?_
  refine lw_arg C 1 hi (by omega) dL_law_643 dL_law_644 dL_law_645 dL_law_646 dL_law_647 ?_
  refine lw_callMI C [.int (oV E (n + 1))] [.int r] (amet_p (amet_eq h2 (m_X8_stand Mm (oV E (n + 1))))) (by intro v hv; simp only [List.mem_cons, List.not_mem_nil, or_false] at hv; subst hv; exact ⟨_, rfl⟩) v_X8_stand km_L_81 (by decide) rfl rfl (Nat.le_of_ble_eq_true rfl) dL_law_648 ?_
  refine lw_eq C rfl dL_law_651 (by decide) ?_
  exact k Mx Mm h3
theorem lw_case_place {E : lwE} (C : lwC E) {Inv : Mem → Mem → Prop} (hk : ok_place Inv) {n : Nat} {i : Int32} (hi : i = nI n) (hn : n + 6 < oT E) {Mx Mm : Mem} (hI : Inv Mx Mm) (k : ∀ Mx' Mm', Inv Mx' Mm' → LW E 1451 i [] Mx' Mm') : LW E 656 i [] Mx Mm := by
  obtain ⟨r, h1, h2, h3⟩ := hk Mx Mm (oV E (n + 1)) hI
  refine lw_aload1 C dL_law_656 ?_
  refine lw_arg C 1 hi (by omega) dL_law_657 dL_law_658 dL_law_659 dL_law_660 dL_law_661 ?_
  refine lw_callXI C [.int (oV E (n + 1))] [] (amet_p (amet_eq h1 (m_X7_place Mx (oV E (n + 1))))) (by intro v hv; simp only [List.mem_cons, List.not_mem_nil, or_false] at hv; subst hv; exact ⟨_, rfl⟩) v_X7_place km_L_82 (by decide) rfl rfl (Nat.le_of_ble_eq_true rfl) dL_law_662 ?_
  refine lw_aload2 C dL_law_665 ?_
  refine lw_arg C 1 hi (by omega) dL_law_666 dL_law_667 dL_law_668 dL_law_669 dL_law_670 ?_
  refine lw_callMI C [.int (oV E (n + 1))] [.int r] (amet_p (amet_eq h2 (m_X8_place Mm (oV E (n + 1))))) (by intro v hv; simp only [List.mem_cons, List.not_mem_nil, or_false] at hv; subst hv; exact ⟨_, rfl⟩) v_X8_place km_L_85 (by decide) rfl rfl (Nat.le_of_ble_eq_true rfl) dL_law_671 ?_
  refine lw_eq C rfl dL_law_674 (by decide) ?_
  exact k Mx Mm h3
theorem lw_case_ahead {E : lwE} (C : lwC E) {Inv : Mem → Mem → Prop} (hk : ok_ahead Inv) {n : Nat} {i : Int32} (hi : i = nI n) (hn : n + 6 < oT E) {Mx Mm : Mem} (hI : Inv Mx Mm) (k : ∀ Mx' Mm', Inv Mx' Mm' → LW E 1451 i [] Mx' Mm') : LW E 679 i [] Mx Mm := by
  obtain ⟨r, Mx', Mm', h1, h2, h3⟩ := hk Mx Mm (oV E (n + 1)) (oV E (n + 2)) hI
  refine lw_aload1 C dL_law_679 ?_
  refine lw_arg C 1 hi (by omega) dL_law_680 dL_law_681 dL_law_682 dL_law_683 dL_law_684 ?_
  refine lw_arg C 2 hi (by omega) dL_law_685 dL_law_686 dL_law_687 dL_law_688 dL_law_689 ?_
  refine lw_callXI C [.int (oV E (n + 1)), .int (oV E (n + 2))] [] (amet_eq h1 (m_X7_ahead (oV E (n + 1)) (oV E (n + 2)) Mx)) (by intro v hv; simp only [List.mem_cons, List.not_mem_nil, or_false] at hv; rcases hv with rfl | rfl <;> exact ⟨_, rfl⟩) v_X7_ahead km_L_86 (by decide) rfl rfl (Nat.le_of_ble_eq_true rfl) dL_law_690 ?_
  refine lw_aload2 C dL_law_693 ?_
  refine lw_arg C 1 hi (by omega) dL_law_694 dL_law_695 dL_law_696 dL_law_697 dL_law_698 ?_
  refine lw_arg C 2 hi (by omega) dL_law_699 dL_law_700 dL_law_701 dL_law_702 dL_law_703 ?_
  refine lw_callMI C [.int (oV E (n + 1)), .int (oV E (n + 2))] [.int r] (amet_eq h2 (m_X8_ahead (oV E (n + 1)) (oV E (n + 2)) Mm)) (by intro v hv; simp only [List.mem_cons, List.not_mem_nil, or_false] at hv; rcases hv with rfl | rfl <;> exact ⟨_, rfl⟩) v_X8_ahead km_L_89 (by decide) rfl rfl (Nat.le_of_ble_eq_true rfl) dL_law_704 ?_
  refine lw_eq C rfl dL_law_707 (by decide) ?_
  exact k Mx' Mm' h3
theorem lw_case_with {E : lwE} (C : lwC E) {Inv : Mem → Mem → Prop} (hk : ok_with Inv) {n : Nat} {i : Int32} (hi : i = nI n) (hn : n + 6 < oT E) {Mx Mm : Mem} (hI : Inv Mx Mm) (k : ∀ Mx' Mm', Inv Mx' Mm' → LW E 1451 i [] Mx' Mm') : LW E 712 i [] Mx Mm := by
  obtain ⟨r, Mx', Mm', h1, h2, h3⟩ := hk Mx Mm (oV E (n + 1)) (oV E (n + 2)) (oV E (n + 3)) hI
  refine lw_aload1 C dL_law_712 ?_
  refine lw_arg C 1 hi (by omega) dL_law_713 dL_law_714 dL_law_715 dL_law_716 dL_law_717 ?_
  refine lw_arg C 2 hi (by omega) dL_law_718 dL_law_719 dL_law_720 dL_law_721 dL_law_722 ?_
  refine lw_arg C 3 hi (by omega) dL_law_723 dL_law_724 dL_law_725 dL_law_726 dL_law_727 ?_
  refine lw_callXI C [.int (oV E (n + 1)), .int (oV E (n + 2)), .int (oV E (n + 3))] [] (amet_eq h1 (m_X7_with (oV E (n + 1)) (oV E (n + 2)) (oV E (n + 3)) Mx)) (by intro v hv; simp only [List.mem_cons, List.not_mem_nil, or_false] at hv; rcases hv with rfl | rfl | rfl <;> exact ⟨_, rfl⟩) v_X7_with km_L_90 (by decide) rfl rfl (Nat.le_of_ble_eq_true rfl) dL_law_728 ?_
  refine lw_aload2 C dL_law_731 ?_
  refine lw_arg C 1 hi (by omega) dL_law_732 dL_law_733 dL_law_734 dL_law_735 dL_law_736 ?_
  refine lw_arg C 2 hi (by omega) dL_law_737 dL_law_738 dL_law_739 dL_law_740 dL_law_741 ?_
  refine lw_arg C 3 hi (by omega) dL_law_742 dL_law_743 dL_law_744 dL_law_745 dL_law_746 ?_
  refine lw_callMI C [.int (oV E (n + 1)), .int (oV E (n + 2)), .int (oV E (n + 3))] [.int r] (amet_eq h2 (m_X8_with (oV E (n + 1)) (oV E (n + 2)) (oV E (n + 3)) Mm)) (by intro v hv; simp only [List.mem_cons, List.not_mem_nil, or_false] at hv; rcases hv with rfl | rfl | rfl <;> exact ⟨_, rfl⟩) v_X8_with km_L_93 (by decide) rfl rfl (Nat.le_of_ble_eq_true rfl) dL_law_747 ?_
  refine lw_eq C rfl dL_law_750 (by decide) ?_
  exact k Mx' Mm' h3
theorem lw_case_all {E : lwE} (C : lwC E) {Inv : Mem → Mem → Prop} (hk : ok_all Inv) {n : Nat} {i : Int32} (hi : i = nI n) (hn : n + 6 < oT E) {Mx Mm : Mem} (hI : Inv Mx Mm) (k : ∀ Mx' Mm', Inv Mx' Mm' → LW E 1451 i [] Mx' Mm') : LW E 755 i [] Mx Mm := by
  obtain ⟨r, Mx', Mm', h1, h2, h3⟩ := hk Mx Mm (oV E (n + 1)) (oV E (n + 2)) hI
  refine lw_aload1 C dL_law_755 ?_
  refine lw_arg C 1 hi (by omega) dL_law_756 dL_law_757 dL_law_758 dL_law_759 dL_law_760 ?_
  refine lw_arg C 2 hi (by omega) dL_law_761 dL_law_762 dL_law_763 dL_law_764 dL_law_765 ?_
  refine lw_callXI C [.int (oV E (n + 1)), .int (oV E (n + 2))] [] (amet_eq h1 (m_X7_all (oV E (n + 1)) (oV E (n + 2)) Mx)) (by intro v hv; simp only [List.mem_cons, List.not_mem_nil, or_false] at hv; rcases hv with rfl | rfl <;> exact ⟨_, rfl⟩) v_X7_all km_L_94 (by decide) rfl rfl (Nat.le_of_ble_eq_true rfl) dL_law_766 ?_
  refine lw_aload2 C dL_law_769 ?_
  refine lw_arg C 1 hi (by omega) dL_law_770 dL_law_771 dL_law_772 dL_law_773 dL_law_774 ?_
  refine lw_arg C 2 hi (by omega) dL_law_775 dL_law_776 dL_law_777 dL_law_778 dL_law_779 ?_
  refine lw_callMI C [.int (oV E (n + 1)), .int (oV E (n + 2))] [.int r] (amet_eq h2 (m_X8_all (oV E (n + 1)) (oV E (n + 2)) Mm)) (by intro v hv; simp only [List.mem_cons, List.not_mem_nil, or_false] at hv; rcases hv with rfl | rfl <;> exact ⟨_, rfl⟩) v_X8_all km_L_97 (by decide) rfl rfl (Nat.le_of_ble_eq_true rfl) dL_law_780 ?_
  refine lw_eq C rfl dL_law_783 (by decide) ?_
  exact k Mx' Mm' h3
theorem lw_case_when {E : lwE} (C : lwC E) {Inv : Mem → Mem → Prop} (hk : ok_when Inv) {n : Nat} {i : Int32} (hi : i = nI n) (hn : n + 6 < oT E) {Mx Mm : Mem} (hI : Inv Mx Mm) (k : ∀ Mx' Mm', Inv Mx' Mm' → LW E 1451 i [] Mx' Mm') : LW E 788 i [] Mx Mm := by
  obtain ⟨r, Mx', Mm', h1, h2, h3⟩ := hk Mx Mm (oV E (n + 1)) hI
  refine lw_aload1 C dL_law_788 ?_
  refine lw_arg C 1 hi (by omega) dL_law_789 dL_law_790 dL_law_791 dL_law_792 dL_law_793 ?_
  refine lw_callXI C [.int (oV E (n + 1))] [] (amet_eq h1 (m_X7_when (oV E (n + 1)) Mx)) (by intro v hv; simp only [List.mem_cons, List.not_mem_nil, or_false] at hv; subst hv; exact ⟨_, rfl⟩) v_X7_when km_L_98 (by decide) rfl rfl (Nat.le_of_ble_eq_true rfl) dL_law_794 ?_
  refine lw_aload2 C dL_law_797 ?_
  refine lw_arg C 1 hi (by omega) dL_law_798 dL_law_799 dL_law_800 dL_law_801 dL_law_802 ?_
  refine lw_callMI C [.int (oV E (n + 1))] [.int r] (amet_eq h2 (m_X8_when (oV E (n + 1)) Mm)) (by intro v hv; simp only [List.mem_cons, List.not_mem_nil, or_false] at hv; subst hv; exact ⟨_, rfl⟩) v_X8_when km_L_101 (by decide) rfl rfl (Nat.le_of_ble_eq_true rfl) dL_law_803 ?_
  refine lw_eq C rfl dL_law_806 (by decide) ?_
  exact k Mx' Mm' h3
theorem lw_case_empty {E : lwE} (C : lwC E) {Inv : Mem → Mem → Prop} (hk : ok_empty Inv) {n : Nat} {i : Int32} (hi : i = nI n) (hn : n + 6 < oT E) {Mx Mm : Mem} (hI : Inv Mx Mm) (k : ∀ Mx' Mm', Inv Mx' Mm' → LW E 1451 i [] Mx' Mm') : LW E 811 i [] Mx Mm := by
  obtain ⟨r, Mx', Mm', h1, h2, h3⟩ := hk Mx Mm  hI
  refine lw_aload1 C dL_law_811 ?_
  refine lw_callXI C [] [] (amet_eq h1 (m_X7_empty  Mx)) (fun v hv => by cases hv) v_X7_empty km_L_102 (by decide) rfl rfl (Nat.le_of_ble_eq_true rfl) dL_law_812 ?_
  refine lw_aload2 C dL_law_815 ?_
  refine lw_callMI C [] [.int r] (amet_eq h2 (m_X8_empty  Mm)) (fun v hv => by cases hv) v_X8_empty km_L_105 (by decide) rfl rfl (Nat.le_of_ble_eq_true rfl) dL_law_816 ?_
  refine lw_eq C rfl dL_law_819 (by decide) ?_
  exact k Mx' Mm' h3
theorem lw_case_best {E : lwE} (C : lwC E) {Inv : Mem → Mem → Prop} (hk : ok_best Inv) {n : Nat} {i : Int32} (hi : i = nI n) (hn : n + 6 < oT E) {Mx Mm : Mem} (hI : Inv Mx Mm) (k : ∀ Mx' Mm', Inv Mx' Mm' → LW E 1451 i [] Mx' Mm') : LW E 824 i [] Mx Mm := by
  obtain ⟨r, Mx', Mm', h1, h2, h3⟩ := hk Mx Mm (oV E (n + 1)) (oV E (n + 2)) (oV E (n + 3)) hI
  refine lw_aload1 C dL_law_824 ?_
  refine lw_arg C 1 hi (by omega) dL_law_825 dL_law_826 dL_law_827 dL_law_828 dL_law_829 ?_
  refine lw_arg C 2 hi (by omega) dL_law_830 dL_law_831 dL_law_832 dL_law_833 dL_law_834 ?_
  refine lw_arg C 3 hi (by omega) dL_law_835 dL_law_836 dL_law_837 dL_law_838 dL_law_839 ?_
  refine lw_callXI C [.int (oV E (n + 1)), .int (oV E (n + 2)), .int (oV E (n + 3))] [] (amet_eq h1 (m_X7_best (oV E (n + 1)) (oV E (n + 2)) (oV E (n + 3)) Mx)) (by intro v hv; simp only [List.mem_cons, List.not_mem_nil, or_false] at hv; rcases hv with rfl | rfl | rfl <;> exact ⟨_, rfl⟩) v_X7_best km_L_106 (by decide) rfl rfl (Nat.le_of_ble_eq_true rfl) dL_law_840 ?_
  refine lw_aload2 C dL_law_843 ?_
  refine lw_arg C 1 hi (by omega) dL_law_844 dL_law_845 dL_law_846 dL_law_847 dL_law_848 ?_
  refine lw_arg C 2 hi (by omega) dL_law_849 dL_law_850 dL_law_851 dL_law_852 dL_law_853 ?_
  refine lw_arg C 3 hi (by omega) dL_law_854 dL_law_855 dL_law_856 dL_law_857 dL_law_858 ?_
  refine lw_callMI C [.int (oV E (n + 1)), .int (oV E (n + 2)), .int (oV E (n + 3))] [.int r] (amet_eq h2 (m_X8_best (oV E (n + 1)) (oV E (n + 2)) (oV E (n + 3)) Mm)) (by intro v hv; simp only [List.mem_cons, List.not_mem_nil, or_false] at hv; rcases hv with rfl | rfl | rfl <;> exact ⟨_, rfl⟩) v_X8_best km_L_109 (by decide) rfl rfl (Nat.le_of_ble_eq_true rfl) dL_law_859 ?_
  refine lw_eq C rfl dL_law_862 (by decide) ?_
  exact k Mx' Mm' h3
theorem lw_case_order {E : lwE} (C : lwC E) {Inv : Mem → Mem → Prop} (hk : ok_order Inv) {n : Nat} {i : Int32} (hi : i = nI n) (hn : n + 6 < oT E) {Mx Mm : Mem} (hI : Inv Mx Mm) (k : ∀ Mx' Mm', Inv Mx' Mm' → LW E 1451 i [] Mx' Mm') : LW E 867 i [] Mx Mm := by
  obtain ⟨r, Mx', Mm', h1, h2, h3⟩ := hk Mx Mm (oV E (n + 1)) (oV E (n + 2)) hI
  refine lw_aload1 C dL_law_867 ?_
  refine lw_arg C 1 hi (by omega) dL_law_868 dL_law_869 dL_law_870 dL_law_871 dL_law_872 ?_
  refine lw_arg C 2 hi (by omega) dL_law_873 dL_law_874 dL_law_875 dL_law_876 dL_law_877 ?_
  refine lw_callXI C [.int (oV E (n + 1)), .int (oV E (n + 2))] [] (amet_eq h1 (m_X7_order (oV E (n + 1)) (oV E (n + 2)) Mx)) (by intro v hv; simp only [List.mem_cons, List.not_mem_nil, or_false] at hv; rcases hv with rfl | rfl <;> exact ⟨_, rfl⟩) v_X7_order km_L_110 (by decide) rfl rfl (Nat.le_of_ble_eq_true rfl) dL_law_878 ?_
  refine lw_aload2 C dL_law_881 ?_
  refine lw_arg C 1 hi (by omega) dL_law_882 dL_law_883 dL_law_884 dL_law_885 dL_law_886 ?_
  refine lw_arg C 2 hi (by omega) dL_law_887 dL_law_888 dL_law_889 dL_law_890 dL_law_891 ?_
  refine lw_callMI C [.int (oV E (n + 1)), .int (oV E (n + 2))] [.int r] (amet_eq h2 (m_X8_order (oV E (n + 1)) (oV E (n + 2)) Mm)) (by intro v hv; simp only [List.mem_cons, List.not_mem_nil, or_false] at hv; rcases hv with rfl | rfl <;> exact ⟨_, rfl⟩) v_X8_order km_L_113 (by decide) rfl rfl (Nat.le_of_ble_eq_true rfl) dL_law_892 ?_
  refine lw_eq C rfl dL_law_895 (by decide) ?_
  exact k Mx' Mm' h3
theorem lw_case_marks {E : lwE} (C : lwC E) {Inv : Mem → Mem → Prop} (hk : ok_marks Inv) {n : Nat} {i : Int32} (hi : i = nI n) (hn : n + 6 < oT E) {Mx Mm : Mem} (hI : Inv Mx Mm) (k : ∀ Mx' Mm', Inv Mx' Mm' → LW E 1451 i [] Mx' Mm') : LW E 900 i [] Mx Mm := by
  obtain ⟨r, Mx', Mm', h1, h2, h3⟩ := hk Mx Mm (oV E (n + 1)) (oV E (n + 2)) hI
  refine lw_aload1 C dL_law_900 ?_
  refine lw_arg C 1 hi (by omega) dL_law_901 dL_law_902 dL_law_903 dL_law_904 dL_law_905 ?_
  refine lw_arg C 2 hi (by omega) dL_law_906 dL_law_907 dL_law_908 dL_law_909 dL_law_910 ?_
  refine lw_callXI C [.int (oV E (n + 1)), .int (oV E (n + 2))] [] (amet_eq h1 (m_X7_marks (oV E (n + 1)) (oV E (n + 2)) Mx)) (by intro v hv; simp only [List.mem_cons, List.not_mem_nil, or_false] at hv; rcases hv with rfl | rfl <;> exact ⟨_, rfl⟩) v_X7_marks km_L_114 (by decide) rfl rfl (Nat.le_of_ble_eq_true rfl) dL_law_911 ?_
  refine lw_aload2 C dL_law_914 ?_
  refine lw_arg C 1 hi (by omega) dL_law_915 dL_law_916 dL_law_917 dL_law_918 dL_law_919 ?_
  refine lw_arg C 2 hi (by omega) dL_law_920 dL_law_921 dL_law_922 dL_law_923 dL_law_924 ?_
  refine lw_callMI C [.int (oV E (n + 1)), .int (oV E (n + 2))] [.int r] (amet_eq h2 (m_X8_marks (oV E (n + 1)) (oV E (n + 2)) Mm)) (by intro v hv; simp only [List.mem_cons, List.not_mem_nil, or_false] at hv; rcases hv with rfl | rfl <;> exact ⟨_, rfl⟩) v_X8_marks km_L_117 (by decide) rfl rfl (Nat.le_of_ble_eq_true rfl) dL_law_925 ?_
  refine lw_eq C rfl dL_law_928 (by decide) ?_
  exact k Mx' Mm' h3
theorem lw_case_sets {E : lwE} (C : lwC E) {Inv : Mem → Mem → Prop} (hk : ok_sets Inv) {n : Nat} {i : Int32} (hi : i = nI n) (hn : n + 6 < oT E) {Mx Mm : Mem} (hI : Inv Mx Mm) (k : ∀ Mx' Mm', Inv Mx' Mm' → LW E 1451 i [] Mx' Mm') : LW E 933 i [] Mx Mm := by
  obtain ⟨r, h1, h2, h3⟩ := hk Mx Mm (oV E (n + 1)) (oV E (n + 2)) hI
  refine lw_aload1 C dL_law_933 ?_
  refine lw_arg C 1 hi (by omega) dL_law_934 dL_law_935 dL_law_936 dL_law_937 dL_law_938 ?_
  refine lw_arg C 2 hi (by omega) dL_law_939 dL_law_940 dL_law_941 dL_law_942 dL_law_943 ?_
  refine lw_callXI C [.int (oV E (n + 1)), .int (oV E (n + 2))] [] (amet_p (amet_eq h1 (m_X7_sets Mx (oV E (n + 1)) (oV E (n + 2))))) (by intro v hv; simp only [List.mem_cons, List.not_mem_nil, or_false] at hv; rcases hv with rfl | rfl <;> exact ⟨_, rfl⟩) v_X7_sets km_L_118 (by decide) rfl rfl (Nat.le_of_ble_eq_true rfl) dL_law_944 ?_
  refine lw_aload2 C dL_law_947 ?_
  refine lw_arg C 1 hi (by omega) dL_law_948 dL_law_949 dL_law_950 dL_law_951 dL_law_952 ?_
  refine lw_arg C 2 hi (by omega) dL_law_953 dL_law_954 dL_law_955 dL_law_956 dL_law_957 ?_
  refine lw_callMI C [.int (oV E (n + 1)), .int (oV E (n + 2))] [.int r] (amet_p (amet_eq h2 (m_X8_sets Mm (oV E (n + 1)) (oV E (n + 2))))) (by intro v hv; simp only [List.mem_cons, List.not_mem_nil, or_false] at hv; rcases hv with rfl | rfl <;> exact ⟨_, rfl⟩) v_X8_sets km_L_121 (by decide) rfl rfl (Nat.le_of_ble_eq_true rfl) dL_law_958 ?_
  refine lw_eq C rfl dL_law_961 (by decide) ?_
  exact k Mx Mm h3
theorem lw_case_share {E : lwE} (C : lwC E) {Inv : Mem → Mem → Prop} (hk : ok_share Inv) {n : Nat} {i : Int32} (hi : i = nI n) (hn : n + 6 < oT E) {Mx Mm : Mem} (hI : Inv Mx Mm) (k : ∀ Mx' Mm', Inv Mx' Mm' → LW E 1451 i [] Mx' Mm') : LW E 966 i [] Mx Mm := by
  obtain ⟨r, h1, h2, h3⟩ := hk Mx Mm (oV E (n + 1)) (oV E (n + 2)) hI
  refine lw_aload1 C dL_law_966 ?_
  refine lw_arg C 1 hi (by omega) dL_law_967 dL_law_968 dL_law_969 dL_law_970 dL_law_971 ?_
  refine lw_arg C 2 hi (by omega) dL_law_972 dL_law_973 dL_law_974 dL_law_975 dL_law_976 ?_
  refine lw_callXI C [.int (oV E (n + 1)), .int (oV E (n + 2))] [] (amet_p (amet_eq h1 (m_X7_share Mx (oV E (n + 1)) (oV E (n + 2))))) (by intro v hv; simp only [List.mem_cons, List.not_mem_nil, or_false] at hv; rcases hv with rfl | rfl <;> exact ⟨_, rfl⟩) v_X7_share km_L_122 (by decide) rfl rfl (Nat.le_of_ble_eq_true rfl) dL_law_977 ?_
  refine lw_aload2 C dL_law_980 ?_
  refine lw_arg C 1 hi (by omega) dL_law_981 dL_law_982 dL_law_983 dL_law_984 dL_law_985 ?_
  refine lw_arg C 2 hi (by omega) dL_law_986 dL_law_987 dL_law_988 dL_law_989 dL_law_990 ?_
  refine lw_callMI C [.int (oV E (n + 1)), .int (oV E (n + 2))] [.int r] (amet_p (amet_eq h2 (m_X8_share Mm (oV E (n + 1)) (oV E (n + 2))))) (by intro v hv; simp only [List.mem_cons, List.not_mem_nil, or_false] at hv; rcases hv with rfl | rfl <;> exact ⟨_, rfl⟩) v_X8_share km_L_125 (by decide) rfl rfl (Nat.le_of_ble_eq_true rfl) dL_law_991 ?_
  refine lw_eq C rfl dL_law_994 (by decide) ?_
  exact k Mx Mm h3
theorem lw_case_byTurns {E : lwE} (C : lwC E) {Inv : Mem → Mem → Prop} (hk : ok_byTurns Inv) {n : Nat} {i : Int32} (hi : i = nI n) (hn : n + 6 < oT E) {Mx Mm : Mem} (hI : Inv Mx Mm) (k : ∀ Mx' Mm', Inv Mx' Mm' → LW E 1451 i [] Mx' Mm') : LW E 999 i [] Mx Mm := by
  obtain ⟨r, Mx', Mm', h1, h2, h3⟩ := hk Mx Mm (oV E (n + 1)) (oV E (n + 2)) hI
  refine lw_aload1 C dL_law_999 ?_
  refine lw_arg C 1 hi (by omega) dL_law_1000 dL_law_1001 dL_law_1002 dL_law_1003 dL_law_1004 ?_
  refine lw_arg C 2 hi (by omega) dL_law_1005 dL_law_1006 dL_law_1007 dL_law_1008 dL_law_1009 ?_
  refine lw_callXI C [.int (oV E (n + 1)), .int (oV E (n + 2))] [] (amet_eq h1 (m_X7_byTurns (oV E (n + 1)) (oV E (n + 2)) Mx)) (by intro v hv; simp only [List.mem_cons, List.not_mem_nil, or_false] at hv; rcases hv with rfl | rfl <;> exact ⟨_, rfl⟩) v_X7_byTurns km_L_126 (by decide) rfl rfl (Nat.le_of_ble_eq_true rfl) dL_law_1010 ?_
  refine lw_aload2 C dL_law_1013 ?_
  refine lw_arg C 1 hi (by omega) dL_law_1014 dL_law_1015 dL_law_1016 dL_law_1017 dL_law_1018 ?_
  refine lw_arg C 2 hi (by omega) dL_law_1019 dL_law_1020 dL_law_1021 dL_law_1022 dL_law_1023 ?_
  refine lw_callMI C [.int (oV E (n + 1)), .int (oV E (n + 2))] [.int r] (amet_eq h2 (m_X8_byTurns (oV E (n + 1)) (oV E (n + 2)) Mm)) (by intro v hv; simp only [List.mem_cons, List.not_mem_nil, or_false] at hv; rcases hv with rfl | rfl <;> exact ⟨_, rfl⟩) v_X8_byTurns km_L_129 (by decide) rfl rfl (Nat.le_of_ble_eq_true rfl) dL_law_1024 ?_
  refine lw_eq C rfl dL_law_1027 (by decide) ?_
  exact k Mx' Mm' h3
theorem lw_case_who {E : lwE} (C : lwC E) {Inv : Mem → Mem → Prop} (hk : ok_who Inv) {n : Nat} {i : Int32} (hi : i = nI n) (hn : n + 6 < oT E) {Mx Mm : Mem} (hI : Inv Mx Mm) (k : ∀ Mx' Mm', Inv Mx' Mm' → LW E 1451 i [] Mx' Mm') : LW E 1032 i [] Mx Mm := by
  obtain ⟨r, Mx', Mm', h1, h2, h3⟩ := hk Mx Mm (oV E (n + 1)) (oV E (n + 2)) (oV E (n + 3)) (oV E (n + 4)) (oV E (n + 5)) (oV E (n + 6)) hI
  refine lw_aload1 C dL_law_1032 ?_
  refine lw_arg C 1 hi (by omega) dL_law_1033 dL_law_1034 dL_law_1035 dL_law_1036 dL_law_1037 ?_
  refine lw_arg C 2 hi (by omega) dL_law_1038 dL_law_1039 dL_law_1040 dL_law_1041 dL_law_1042 ?_
  refine lw_arg C 3 hi (by omega) dL_law_1043 dL_law_1044 dL_law_1045 dL_law_1046 dL_law_1047 ?_
  refine lw_arg C 4 hi (by omega) dL_law_1048 dL_law_1049 dL_law_1050 dL_law_1051 dL_law_1052 ?_
  refine lw_arg C 5 hi (by omega) dL_law_1053 dL_law_1054 dL_law_1055 dL_law_1056 dL_law_1057 ?_
  refine lw_arg6 C hi (by omega) dL_law_1058 dL_law_1059 dL_law_1060 dL_law_1062 dL_law_1063 ?_
  refine lw_callXI C [.int (oV E (n + 1)), .int (oV E (n + 2)), .int (oV E (n + 3)), .int (oV E (n + 4)), .int (oV E (n + 5)), .int (oV E (n + 6))] [] (amet_eq h1 (m_X7_who (oV E (n + 1)) (oV E (n + 2)) (oV E (n + 3)) (oV E (n + 4)) (oV E (n + 5)) (oV E (n + 6)) Mx)) (by intro v hv; simp only [List.mem_cons, List.not_mem_nil, or_false] at hv; rcases hv with rfl | rfl | rfl | rfl | rfl | rfl <;> exact ⟨_, rfl⟩) v_X7_who km_L_130 (by decide) rfl rfl (Nat.le_of_ble_eq_true rfl) dL_law_1064 ?_
  refine lw_aload2 C dL_law_1067 ?_
  refine lw_arg C 1 hi (by omega) dL_law_1068 dL_law_1069 dL_law_1070 dL_law_1071 dL_law_1072 ?_
  refine lw_arg C 2 hi (by omega) dL_law_1073 dL_law_1074 dL_law_1075 dL_law_1076 dL_law_1077 ?_
  refine lw_arg C 3 hi (by omega) dL_law_1078 dL_law_1079 dL_law_1080 dL_law_1081 dL_law_1082 ?_
  refine lw_arg C 4 hi (by omega) dL_law_1083 dL_law_1084 dL_law_1085 dL_law_1086 dL_law_1087 ?_
  refine lw_arg C 5 hi (by omega) dL_law_1088 dL_law_1089 dL_law_1090 dL_law_1091 dL_law_1092 ?_
  refine lw_arg6 C hi (by omega) dL_law_1093 dL_law_1094 dL_law_1095 dL_law_1097 dL_law_1098 ?_
  refine lw_callMI C [.int (oV E (n + 1)), .int (oV E (n + 2)), .int (oV E (n + 3)), .int (oV E (n + 4)), .int (oV E (n + 5)), .int (oV E (n + 6))] [.int r] (amet_eq h2 (m_X8_who (oV E (n + 1)) (oV E (n + 2)) (oV E (n + 3)) (oV E (n + 4)) (oV E (n + 5)) (oV E (n + 6)) Mm)) (by intro v hv; simp only [List.mem_cons, List.not_mem_nil, or_false] at hv; rcases hv with rfl | rfl | rfl | rfl | rfl | rfl <;> exact ⟨_, rfl⟩) v_X8_who km_L_134 (by decide) rfl rfl (Nat.le_of_ble_eq_true rfl) dL_law_1099 ?_
  refine lw_eq C rfl dL_law_1102 (by decide) ?_
  exact k Mx' Mm' h3
theorem lw_case_colours {E : lwE} (C : lwC E) {Inv : Mem → Mem → Prop} (hk : ok_colours Inv) {n : Nat} {i : Int32} (hi : i = nI n) (hn : n + 6 < oT E) {Mx Mm : Mem} (hI : Inv Mx Mm) (k : ∀ Mx' Mm', Inv Mx' Mm' → LW E 1451 i [] Mx' Mm') : LW E 1107 i [] Mx Mm := by
  obtain ⟨r, Mx', Mm', h1, h2, h3⟩ := hk Mx Mm (oV E (n + 1)) (oV E (n + 2)) (oV E (n + 3)) (oV E (n + 4)) hI
  refine lw_aload1 C dL_law_1107 ?_
  refine lw_arg C 1 hi (by omega) dL_law_1108 dL_law_1109 dL_law_1110 dL_law_1111 dL_law_1112 ?_
  refine lw_arg C 2 hi (by omega) dL_law_1113 dL_law_1114 dL_law_1115 dL_law_1116 dL_law_1117 ?_
  refine lw_arg C 3 hi (by omega) dL_law_1118 dL_law_1119 dL_law_1120 dL_law_1121 dL_law_1122 ?_
  refine lw_arg C 4 hi (by omega) dL_law_1123 dL_law_1124 dL_law_1125 dL_law_1126 dL_law_1127 ?_
  refine lw_callXI C [.int (oV E (n + 1)), .int (oV E (n + 2)), .int (oV E (n + 3)), .int (oV E (n + 4))] [] (amet_eq h1 (m_X7_colours (oV E (n + 1)) (oV E (n + 2)) (oV E (n + 3)) (oV E (n + 4)) Mx)) (by intro v hv; simp only [List.mem_cons, List.not_mem_nil, or_false] at hv; rcases hv with rfl | rfl | rfl | rfl <;> exact ⟨_, rfl⟩) v_X7_colours km_L_135 (by decide) rfl rfl (Nat.le_of_ble_eq_true rfl) dL_law_1128 ?_
  refine lw_aload2 C dL_law_1131 ?_
  refine lw_arg C 1 hi (by omega) dL_law_1132 dL_law_1133 dL_law_1134 dL_law_1135 dL_law_1136 ?_
  refine lw_arg C 2 hi (by omega) dL_law_1137 dL_law_1138 dL_law_1139 dL_law_1140 dL_law_1141 ?_
  refine lw_arg C 3 hi (by omega) dL_law_1142 dL_law_1143 dL_law_1144 dL_law_1145 dL_law_1146 ?_
  refine lw_arg C 4 hi (by omega) dL_law_1147 dL_law_1148 dL_law_1149 dL_law_1150 dL_law_1151 ?_
  refine lw_callMI C [.int (oV E (n + 1)), .int (oV E (n + 2)), .int (oV E (n + 3)), .int (oV E (n + 4))] [.int r] (amet_eq h2 (m_X8_colours (oV E (n + 1)) (oV E (n + 2)) (oV E (n + 3)) (oV E (n + 4)) Mm)) (by intro v hv; simp only [List.mem_cons, List.not_mem_nil, or_false] at hv; rcases hv with rfl | rfl | rfl | rfl <;> exact ⟨_, rfl⟩) v_X8_colours km_L_139 (by decide) rfl rfl (Nat.le_of_ble_eq_true rfl) dL_law_1152 ?_
  refine lw_eq C rfl dL_law_1155 (by decide) ?_
  exact k Mx' Mm' h3
theorem lw_case_sleep {E : lwE} (C : lwC E) {Inv : Mem → Mem → Prop} (hk : ok_sleep Inv) {n : Nat} {i : Int32} (hi : i = nI n) (hn : n + 6 < oT E) {Mx Mm : Mem} (hI : Inv Mx Mm) (k : ∀ Mx' Mm', Inv Mx' Mm' → LW E 1451 i [] Mx' Mm') : LW E 1160 i [] Mx Mm := by
  obtain ⟨r, Mx', Mm', h1, h2, h3⟩ := hk Mx Mm (oV E (n + 1)) (oV E (n + 2)) (oV E (n + 3)) (oV E (n + 4)) hI
  refine lw_aload1 C dL_law_1160 ?_
  refine lw_arg C 1 hi (by omega) dL_law_1161 dL_law_1162 dL_law_1163 dL_law_1164 dL_law_1165 ?_
  refine lw_arg C 2 hi (by omega) dL_law_1166 dL_law_1167 dL_law_1168 dL_law_1169 dL_law_1170 ?_
  refine lw_arg C 3 hi (by omega) dL_law_1171 dL_law_1172 dL_law_1173 dL_law_1174 dL_law_1175 ?_
  refine lw_arg C 4 hi (by omega) dL_law_1176 dL_law_1177 dL_law_1178 dL_law_1179 dL_law_1180 ?_
  refine lw_callXL C [.int (oV E (n + 1)), .int (oV E (n + 2)), .int (oV E (n + 3)), .int (oV E (n + 4))] [] (amet_eq h1 (m_X7_sleep (oV E (n + 1)) (oV E (n + 2)) (oV E (n + 3)) (oV E (n + 4)) Mx)) (by intro v hv; simp only [List.mem_cons, List.not_mem_nil, or_false] at hv; rcases hv with rfl | rfl | rfl | rfl <;> exact ⟨_, rfl⟩) v_X7_sleep km_L_140 (by decide) rfl rfl (Nat.le_of_ble_eq_true rfl) dL_law_1181 ?_
  refine lw_aload2 C dL_law_1184 ?_
  refine lw_arg C 1 hi (by omega) dL_law_1185 dL_law_1186 dL_law_1187 dL_law_1188 dL_law_1189 ?_
  refine lw_arg C 2 hi (by omega) dL_law_1190 dL_law_1191 dL_law_1192 dL_law_1193 dL_law_1194 ?_
  refine lw_arg C 3 hi (by omega) dL_law_1195 dL_law_1196 dL_law_1197 dL_law_1198 dL_law_1199 ?_
  refine lw_arg C 4 hi (by omega) dL_law_1200 dL_law_1201 dL_law_1202 dL_law_1203 dL_law_1204 ?_
  refine lw_callML C [.int (oV E (n + 1)), .int (oV E (n + 2)), .int (oV E (n + 3)), .int (oV E (n + 4))] [.long r] (amet_eq h2 (m_X8_sleep (oV E (n + 1)) (oV E (n + 2)) (oV E (n + 3)) (oV E (n + 4)) Mm)) (by intro v hv; simp only [List.mem_cons, List.not_mem_nil, or_false] at hv; rcases hv with rfl | rfl | rfl | rfl <;> exact ⟨_, rfl⟩) v_X8_sleep km_L_144 (by decide) rfl rfl (Nat.le_of_ble_eq_true rfl) dL_law_1205 ?_
  refine lw_leq C rfl dL_law_1208 dL_law_1209 (by decide) ?_
  exact k Mx' Mm' h3
theorem lw_case_drawn {E : lwE} (C : lwC E) {Inv : Mem → Mem → Prop} (hk : ok_drawn Inv) {n : Nat} {i : Int32} (hi : i = nI n) (hn : n + 6 < oT E) {Mx Mm : Mem} (hI : Inv Mx Mm) (k : ∀ Mx' Mm', Inv Mx' Mm' → LW E 1451 i [] Mx' Mm') : LW E 1214 i [] Mx Mm := by
  obtain ⟨r, Mx', Mm', h1, h2, h3⟩ := hk Mx Mm (oV E (n + 1)) (oV E (n + 2)) (oV E (n + 3)) hI
  refine lw_aload1 C dL_law_1214 ?_
  refine lw_arg C 1 hi (by omega) dL_law_1215 dL_law_1216 dL_law_1217 dL_law_1218 dL_law_1219 ?_
  refine lw_arg C 2 hi (by omega) dL_law_1220 dL_law_1221 dL_law_1222 dL_law_1223 dL_law_1224 ?_
  refine lw_arg C 3 hi (by omega) dL_law_1225 dL_law_1226 dL_law_1227 dL_law_1228 dL_law_1229 ?_
  refine lw_callXI C [.int (oV E (n + 1)), .int (oV E (n + 2)), .int (oV E (n + 3))] [] (amet_eq h1 (m_X7_drawn (oV E (n + 1)) (oV E (n + 2)) (oV E (n + 3)) Mx)) (by intro v hv; simp only [List.mem_cons, List.not_mem_nil, or_false] at hv; rcases hv with rfl | rfl | rfl <;> exact ⟨_, rfl⟩) v_X7_drawn km_L_145 (by decide) rfl rfl (Nat.le_of_ble_eq_true rfl) dL_law_1230 ?_
  refine lw_aload2 C dL_law_1233 ?_
  refine lw_arg C 1 hi (by omega) dL_law_1234 dL_law_1235 dL_law_1236 dL_law_1237 dL_law_1238 ?_
  refine lw_arg C 2 hi (by omega) dL_law_1239 dL_law_1240 dL_law_1241 dL_law_1242 dL_law_1243 ?_
  refine lw_arg C 3 hi (by omega) dL_law_1244 dL_law_1245 dL_law_1246 dL_law_1247 dL_law_1248 ?_
  refine lw_callMI C [.int (oV E (n + 1)), .int (oV E (n + 2)), .int (oV E (n + 3))] [.int r] (amet_eq h2 (m_X8_drawn (oV E (n + 1)) (oV E (n + 2)) (oV E (n + 3)) Mm)) (by intro v hv; simp only [List.mem_cons, List.not_mem_nil, or_false] at hv; rcases hv with rfl | rfl | rfl <;> exact ⟨_, rfl⟩) v_X8_drawn km_L_148 (by decide) rfl rfl (Nat.le_of_ble_eq_true rfl) dL_law_1249 ?_
  refine lw_eq C rfl dL_law_1252 (by decide) ?_
  exact k Mx' Mm' h3
theorem lw_case_image {E : lwE} (C : lwC E) {Inv : Mem → Mem → Prop} (hk : ok_image Inv) {n : Nat} {i : Int32} (hi : i = nI n) (hn : n + 6 < oT E) {Mx Mm : Mem} (hI : Inv Mx Mm) (k : ∀ Mx' Mm', Inv Mx' Mm' → LW E 1451 i [] Mx' Mm') : LW E 1257 i [] Mx Mm := by
  obtain ⟨r, Mx', Mm', h1, h2, h3⟩ := hk Mx Mm (oV E (n + 1)) hI
  refine lw_aload1 C dL_law_1257 ?_
  refine lw_arg C 1 hi (by omega) dL_law_1258 dL_law_1259 dL_law_1260 dL_law_1261 dL_law_1262 ?_
  refine lw_callXI C [.int (oV E (n + 1))] [] (amet_eq h1 (m_X7_image (oV E (n + 1)) Mx)) (by intro v hv; simp only [List.mem_cons, List.not_mem_nil, or_false] at hv; subst hv; exact ⟨_, rfl⟩) v_X7_image km_L_149 (by decide) rfl rfl (Nat.le_of_ble_eq_true rfl) dL_law_1263 ?_
  refine lw_aload2 C dL_law_1266 ?_
  refine lw_arg C 1 hi (by omega) dL_law_1267 dL_law_1268 dL_law_1269 dL_law_1270 dL_law_1271 ?_
  refine lw_callMI C [.int (oV E (n + 1))] [.int r] (amet_eq h2 (m_X8_image (oV E (n + 1)) Mm)) (by intro v hv; simp only [List.mem_cons, List.not_mem_nil, or_false] at hv; subst hv; exact ⟨_, rfl⟩) v_X8_image km_L_152 (by decide) rfl rfl (Nat.le_of_ble_eq_true rfl) dL_law_1272 ?_
  refine lw_eq C rfl dL_law_1275 (by decide) ?_
  exact k Mx' Mm' h3
theorem lw_case_restore {E : lwE} (C : lwC E) {Inv : Mem → Mem → Prop} (hk : ok_restore Inv) {n : Nat} {i : Int32} (hi : i = nI n) (hn : n + 6 < oT E) {Mx Mm : Mem} (hI : Inv Mx Mm) (k : ∀ Mx' Mm', Inv Mx' Mm' → LW E 1451 i [] Mx' Mm') : LW E 1280 i [] Mx Mm := by
  obtain ⟨r, Mx', Mm', h1, h2, h3⟩ := hk Mx Mm (oV E (n + 1)) hI
  refine lw_aload1 C dL_law_1280 ?_
  refine lw_arg C 1 hi (by omega) dL_law_1281 dL_law_1282 dL_law_1283 dL_law_1284 dL_law_1285 ?_
  refine lw_callXI C [.int (oV E (n + 1))] [] (amet_eq h1 (m_X7_restore (oV E (n + 1)) Mx)) (by intro v hv; simp only [List.mem_cons, List.not_mem_nil, or_false] at hv; subst hv; exact ⟨_, rfl⟩) v_X7_restore km_L_153 (by decide) rfl rfl (Nat.le_of_ble_eq_true rfl) dL_law_1286 ?_
  refine lw_aload2 C dL_law_1289 ?_
  refine lw_arg C 1 hi (by omega) dL_law_1290 dL_law_1291 dL_law_1292 dL_law_1293 dL_law_1294 ?_
  refine lw_callMI C [.int (oV E (n + 1))] [.int r] (amet_eq h2 (m_X8_restore (oV E (n + 1)) Mm)) (by intro v hv; simp only [List.mem_cons, List.not_mem_nil, or_false] at hv; subst hv; exact ⟨_, rfl⟩) v_X8_restore km_L_156 (by decide) rfl rfl (Nat.le_of_ble_eq_true rfl) dL_law_1295 ?_
  refine lw_eq C rfl dL_law_1298 (by decide) ?_
  exact k Mx' Mm' h3
theorem lw_case_kind {E : lwE} (C : lwC E) {Inv : Mem → Mem → Prop} (hk : ok_kind Inv) {n : Nat} {i : Int32} (hi : i = nI n) (hn : n + 6 < oT E) {Mx Mm : Mem} (hI : Inv Mx Mm) (k : ∀ Mx' Mm', Inv Mx' Mm' → LW E 1451 i [] Mx' Mm') : LW E 1303 i [] Mx Mm := by
  obtain ⟨r, h1, h2, h3⟩ := hk Mx Mm (oV E (n + 1)) hI
  refine lw_aload1 C dL_law_1303 ?_
  refine lw_arg C 1 hi (by omega) dL_law_1304 dL_law_1305 dL_law_1306 dL_law_1307 dL_law_1308 ?_
  refine lw_callXI C [.int (oV E (n + 1))] [] (amet_p (amet_eq h1 (m_X7_kind Mx (oV E (n + 1))))) (by intro v hv; simp only [List.mem_cons, List.not_mem_nil, or_false] at hv; subst hv; exact ⟨_, rfl⟩) v_X7_kind km_L_157 (by decide) rfl rfl (Nat.le_of_ble_eq_true rfl) dL_law_1309 ?_
  refine lw_aload2 C dL_law_1312 ?_
  refine lw_arg C 1 hi (by omega) dL_law_1313 dL_law_1314 dL_law_1315 dL_law_1316 dL_law_1317 ?_
  refine lw_callMI C [.int (oV E (n + 1))] [.int r] (amet_p (amet_eq h2 (m_X8_kind Mm (oV E (n + 1))))) (by intro v hv; simp only [List.mem_cons, List.not_mem_nil, or_false] at hv; subst hv; exact ⟨_, rfl⟩) v_X8_kind km_L_160 (by decide) rfl rfl (Nat.le_of_ble_eq_true rfl) dL_law_1318 ?_
  refine lw_eq C rfl dL_law_1321 (by decide) ?_
  exact k Mx Mm h3
theorem lw_case_as {E : lwE} (C : lwC E) {Inv : Mem → Mem → Prop} (hk : ok_as Inv) {n : Nat} {i : Int32} (hi : i = nI n) (hn : n + 6 < oT E) {Mx Mm : Mem} (hI : Inv Mx Mm) (k : ∀ Mx' Mm', Inv Mx' Mm' → LW E 1451 i [] Mx' Mm') : LW E 1326 i [] Mx Mm := by
  obtain ⟨r, Mx', Mm', h1, h2, h3⟩ := hk Mx Mm (oV E (n + 1)) (oV E (n + 2)) hI
  refine lw_aload1 C dL_law_1326 ?_
  refine lw_arg C 1 hi (by omega) dL_law_1327 dL_law_1328 dL_law_1329 dL_law_1330 dL_law_1331 ?_
  refine lw_arg C 2 hi (by omega) dL_law_1332 dL_law_1333 dL_law_1334 dL_law_1335 dL_law_1336 ?_
  refine lw_callXI C [.int (oV E (n + 1)), .int (oV E (n + 2))] [] (amet_eq h1 (m_X7_as (oV E (n + 1)) (oV E (n + 2)) Mx)) (by intro v hv; simp only [List.mem_cons, List.not_mem_nil, or_false] at hv; rcases hv with rfl | rfl <;> exact ⟨_, rfl⟩) v_X7_as km_L_161 (by decide) rfl rfl (Nat.le_of_ble_eq_true rfl) dL_law_1337 ?_
  refine lw_aload2 C dL_law_1340 ?_
  refine lw_arg C 1 hi (by omega) dL_law_1341 dL_law_1342 dL_law_1343 dL_law_1344 dL_law_1345 ?_
  refine lw_arg C 2 hi (by omega) dL_law_1346 dL_law_1347 dL_law_1348 dL_law_1349 dL_law_1350 ?_
  refine lw_callMI C [.int (oV E (n + 1)), .int (oV E (n + 2))] [.int r] (amet_eq h2 (m_X8_as (oV E (n + 1)) (oV E (n + 2)) Mm)) (by intro v hv; simp only [List.mem_cons, List.not_mem_nil, or_false] at hv; rcases hv with rfl | rfl <;> exact ⟨_, rfl⟩) v_X8_as km_L_164 (by decide) rfl rfl (Nat.le_of_ble_eq_true rfl) dL_law_1351 ?_
  refine lw_eq C rfl dL_law_1354 (by decide) ?_
  exact k Mx' Mm' h3
theorem lw_case_ask {E : lwE} (C : lwC E) {Inv : Mem → Mem → Prop} (hk : ok_ask Inv) {n : Nat} {i : Int32} (hi : i = nI n) (hn : n + 6 < oT E) {Mx Mm : Mem} (hI : Inv Mx Mm) (k : ∀ Mx' Mm', Inv Mx' Mm' → LW E 1451 i [] Mx' Mm') : LW E 1359 i [] Mx Mm := by
  obtain ⟨r, Mx', Mm', h1, h2, h3⟩ := hk Mx Mm (oV E (n + 1)) (oV E (n + 2)) hI
  refine lw_aload1 C dL_law_1359 ?_
  refine lw_arg C 1 hi (by omega) dL_law_1360 dL_law_1361 dL_law_1362 dL_law_1363 dL_law_1364 ?_
  refine lw_arg C 2 hi (by omega) dL_law_1365 dL_law_1366 dL_law_1367 dL_law_1368 dL_law_1369 ?_
  refine lw_callXI C [.int (oV E (n + 1)), .int (oV E (n + 2))] [] (amet_eq h1 (m_X7_ask (oV E (n + 1)) (oV E (n + 2)) Mx)) (by intro v hv; simp only [List.mem_cons, List.not_mem_nil, or_false] at hv; rcases hv with rfl | rfl <;> exact ⟨_, rfl⟩) v_X7_ask km_L_165 (by decide) rfl rfl (Nat.le_of_ble_eq_true rfl) dL_law_1370 ?_
  refine lw_aload2 C dL_law_1373 ?_
  refine lw_arg C 1 hi (by omega) dL_law_1374 dL_law_1375 dL_law_1376 dL_law_1377 dL_law_1378 ?_
  refine lw_arg C 2 hi (by omega) dL_law_1379 dL_law_1380 dL_law_1381 dL_law_1382 dL_law_1383 ?_
  refine lw_callMI C [.int (oV E (n + 1)), .int (oV E (n + 2))] [.int r] (amet_eq h2 (m_X8_ask (oV E (n + 1)) (oV E (n + 2)) Mm)) (by intro v hv; simp only [List.mem_cons, List.not_mem_nil, or_false] at hv; rcases hv with rfl | rfl <;> exact ⟨_, rfl⟩) v_X8_ask km_L_168 (by decide) rfl rfl (Nat.le_of_ble_eq_true rfl) dL_law_1384 ?_
  refine lw_eq C rfl dL_law_1387 (by decide) ?_
  exact k Mx' Mm' h3
theorem lw_case_trace {E : lwE} (C : lwC E) {Inv : Mem → Mem → Prop} (hk : ok_trace Inv) {n : Nat} {i : Int32} (hi : i = nI n) (hn : n + 6 < oT E) {Mx Mm : Mem} (hI : Inv Mx Mm) (k : ∀ Mx' Mm', Inv Mx' Mm' → LW E 1451 i [] Mx' Mm') : LW E 1392 i [] Mx Mm := by
  obtain ⟨r, h1, h2, h3⟩ := hk Mx Mm (oV E (n + 1)) hI
  refine lw_aload1 C dL_law_1392 ?_
  refine lw_arg C 1 hi (by omega) dL_law_1393 dL_law_1394 dL_law_1395 dL_law_1396 dL_law_1397 ?_
  refine lw_callXI C [.int (oV E (n + 1))] [] (amet_p (amet_eq h1 (m_X7_trace Mx (oV E (n + 1))))) (by intro v hv; simp only [List.mem_cons, List.not_mem_nil, or_false] at hv; subst hv; exact ⟨_, rfl⟩) v_X7_trace km_L_169 (by decide) rfl rfl (Nat.le_of_ble_eq_true rfl) dL_law_1398 ?_
  refine lw_aload2 C dL_law_1401 ?_
  refine lw_arg C 1 hi (by omega) dL_law_1402 dL_law_1403 dL_law_1404 dL_law_1405 dL_law_1406 ?_
  refine lw_callMI C [.int (oV E (n + 1))] [.int r] (amet_p (amet_eq h2 (m_X8_trace Mm (oV E (n + 1))))) (by intro v hv; simp only [List.mem_cons, List.not_mem_nil, or_false] at hv; subst hv; exact ⟨_, rfl⟩) v_X8_trace km_L_172 (by decide) rfl rfl (Nat.le_of_ble_eq_true rfl) dL_law_1407 ?_
  refine lw_eq C rfl dL_law_1410 (by decide) ?_
  exact k Mx Mm h3
theorem lw_case_count {E : lwE} (C : lwC E) {Inv : Mem → Mem → Prop} (hk : ok_count Inv) {n : Nat} {i : Int32} (hi : i = nI n) (hn : n + 6 < oT E) {Mx Mm : Mem} (hI : Inv Mx Mm) (k : ∀ Mx' Mm', Inv Mx' Mm' → LW E 1451 i [] Mx' Mm') : LW E 1415 i [] Mx Mm := by
  obtain ⟨r, h1, h2, h3⟩ := hk Mx Mm (oV E (n + 1)) hI
  refine lw_aload1 C dL_law_1415 ?_
  refine lw_arg C 1 hi (by omega) dL_law_1416 dL_law_1417 dL_law_1418 dL_law_1419 dL_law_1420 ?_
  refine lw_callXI C [.int (oV E (n + 1))] [] (amet_p (amet_eq h1 (m_X7_count Mx (oV E (n + 1))))) (by intro v hv; simp only [List.mem_cons, List.not_mem_nil, or_false] at hv; subst hv; exact ⟨_, rfl⟩) v_X7_count km_L_173 (by decide) rfl rfl (Nat.le_of_ble_eq_true rfl) dL_law_1421 ?_
  refine lw_aload2 C dL_law_1424 ?_
  refine lw_arg C 1 hi (by omega) dL_law_1425 dL_law_1426 dL_law_1427 dL_law_1428 dL_law_1429 ?_
  refine lw_callMI C [.int (oV E (n + 1))] [.int r] (amet_p (amet_eq h2 (m_X8_count Mm (oV E (n + 1))))) (by intro v hv; simp only [List.mem_cons, List.not_mem_nil, or_false] at hv; subst hv; exact ⟨_, rfl⟩) v_X8_count km_L_176 (by decide) rfl rfl (Nat.le_of_ble_eq_true rfl) dL_law_1430 ?_
  refine lw_eq C rfl dL_law_1433 (by decide) ?_
  exact k Mx Mm h3
theorem lw_case_status {E : lwE} (C : lwC E) {Inv : Mem → Mem → Prop} (hk : ok_status Inv) {n : Nat} {i : Int32} (hi : i = nI n) (hn : n + 6 < oT E) {Mx Mm : Mem} (hI : Inv Mx Mm) (k : ∀ Mx' Mm', Inv Mx' Mm' → LW E 1451 i [] Mx' Mm') : LW E 1438 i [] Mx Mm := by
  obtain ⟨r, h1, h2, h3⟩ := hk Mx Mm  hI
  refine lw_aload1 C dL_law_1438 ?_
  refine lw_callXI C [] [] (amet_p (amet_eq h1 (m_X7_status Mx ))) (fun v hv => by cases hv) v_X7_status km_L_177 (by decide) rfl rfl (Nat.le_of_ble_eq_true rfl) dL_law_1439 ?_
  refine lw_aload2 C dL_law_1442 ?_
  refine lw_callMI C [] [.int r] (amet_p (amet_eq h2 (m_X8_status Mm ))) (fun v hv => by cases hv) v_X8_status km_L_180 (by decide) rfl rfl (Nat.le_of_ble_eq_true rfl) dL_law_1443 ?_
  refine lw_eq C rfl dL_law_1446 (by decide) ?_
  exact k Mx Mm h3
