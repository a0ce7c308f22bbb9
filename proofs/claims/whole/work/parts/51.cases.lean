/-! ===== the law: its cases, its loop ===== -/
theorem ll_13 : am_lk (.methodLink R_law 13 yX8_land) := ⟨List.mem_append_right _ (List.mem_of_getElem? (i := 295) (by decide +kernel)), rfl⟩
theorem ll_17 : am_lk (.methodLink R_law 17 yX9_land) := ⟨List.mem_append_right _ (List.mem_of_getElem? (i := 881) (by decide +kernel)), rfl⟩
theorem ll_18 : am_lk (.methodLink R_law 18 yX8_draw) := ⟨List.mem_append_right _ (List.mem_of_getElem? (i := 302) (by decide +kernel)), rfl⟩
theorem ll_22 : am_lk (.methodLink R_law 22 yX9_draw) := ⟨List.mem_append_right _ (List.mem_of_getElem? (i := 891) (by decide +kernel)), rfl⟩
theorem ll_23 : am_lk (.methodLink R_law 23 yX8_enter) := ⟨List.mem_append_right _ (List.mem_of_getElem? (i := 316) (by decide +kernel)), rfl⟩
theorem ll_26 : am_lk (.methodLink R_law 26 yX9_enter) := ⟨List.mem_append_right _ (List.mem_of_getElem? (i := 899) (by decide +kernel)), rfl⟩
theorem ll_27 : am_lk (.methodLink R_law 27 yX8_seeds) := ⟨List.mem_append_right _ (List.mem_of_getElem? (i := 328) (by decide +kernel)), rfl⟩
theorem ll_30 : am_lk (.methodLink R_law 30 yX9_seeds) := ⟨List.mem_append_right _ (List.mem_of_getElem? (i := 907) (by decide +kernel)), rfl⟩
theorem ll_31 : am_lk (.methodLink R_law 31 yX8_lay) := ⟨List.mem_append_right _ (List.mem_of_getElem? (i := 332) (by decide +kernel)), rfl⟩
theorem ll_34 : am_lk (.methodLink R_law 34 yX9_lay) := ⟨List.mem_append_right _ (List.mem_of_getElem? (i := 911) (by decide +kernel)), rfl⟩
theorem ll_35 : am_lk (.methodLink R_law 35 yX8_place) := ⟨List.mem_append_right _ (List.mem_of_getElem? (i := 381) (by decide +kernel)), rfl⟩
theorem ll_38 : am_lk (.methodLink R_law 38 yX9_place) := ⟨List.mem_append_right _ (List.mem_of_getElem? (i := 947) (by decide +kernel)), rfl⟩
theorem ll_39 : am_lk (.methodLink R_law 39 yX8_of) := ⟨List.mem_append_right _ (List.mem_of_getElem? (i := 385) (by decide +kernel)), rfl⟩
theorem ll_42 : am_lk (.methodLink R_law 42 yX9_of) := ⟨List.mem_append_right _ (List.mem_of_getElem? (i := 951) (by decide +kernel)), rfl⟩
theorem ll_43 : am_lk (.methodLink R_law 43 yX8_lucky) := ⟨List.mem_append_right _ (List.mem_of_getElem? (i := 402) (by decide +kernel)), rfl⟩
theorem ll_46 : am_lk (.methodLink R_law 46 yX9_lucky) := ⟨List.mem_append_right _ (List.mem_of_getElem? (i := 995) (by decide +kernel)), rfl⟩
theorem ll_47 : am_lk (.methodLink R_law 47 yX8_side) := ⟨List.mem_append_right _ (List.mem_of_getElem? (i := 433) (by decide +kernel)), rfl⟩
theorem ll_50 : am_lk (.methodLink R_law 50 yX9_side) := ⟨List.mem_append_right _ (List.mem_of_getElem? (i := 1003) (by decide +kernel)), rfl⟩
theorem ll_51 : am_lk (.methodLink R_law 51 yX8_point) := ⟨List.mem_append_right _ (List.mem_of_getElem? (i := 451) (by decide +kernel)), rfl⟩
theorem ll_54 : am_lk (.methodLink R_law 54 yX9_point) := ⟨List.mem_append_right _ (List.mem_of_getElem? (i := 1012) (by decide +kernel)), rfl⟩
theorem ll_55 : am_lk (.methodLink R_law 55 yX8_back) := ⟨List.mem_append_right _ (List.mem_of_getElem? (i := 492) (by decide +kernel)), rfl⟩
theorem ll_59 : am_lk (.methodLink R_law 59 yX9_back) := ⟨List.mem_append_right _ (List.mem_of_getElem? (i := 1020) (by decide +kernel)), rfl⟩
theorem ll_60 : am_lk (.methodLink R_law 60 yX8_walk) := ⟨List.mem_append_right _ (List.mem_of_getElem? (i := 508) (by decide +kernel)), rfl⟩
theorem ll_63 : am_lk (.methodLink R_law 63 yX9_walk) := ⟨List.mem_append_right _ (List.mem_of_getElem? (i := 1032) (by decide +kernel)), rfl⟩
theorem ll_64 : am_lk (.methodLink R_law 64 yX8_retire) := ⟨List.mem_append_right _ (List.mem_of_getElem? (i := 512) (by decide +kernel)), rfl⟩
theorem ll_67 : am_lk (.methodLink R_law 67 yX9_retire) := ⟨List.mem_append_right _ (List.mem_of_getElem? (i := 1040) (by decide +kernel)), rfl⟩
theorem ll_68 : am_lk (.methodLink R_law 68 yX8_undo) := ⟨List.mem_append_right _ (List.mem_of_getElem? (i := 516) (by decide +kernel)), rfl⟩
theorem ll_71 : am_lk (.methodLink R_law 71 yX9_undo) := ⟨List.mem_append_right _ (List.mem_of_getElem? (i := 1044) (by decide +kernel)), rfl⟩
theorem ll_72 : am_lk (.methodLink R_law 72 yX8_score) := ⟨List.mem_append_right _ (List.mem_of_getElem? (i := 520) (by decide +kernel)), rfl⟩
theorem ll_75 : am_lk (.methodLink R_law 75 yX9_score) := ⟨List.mem_append_right _ (List.mem_of_getElem? (i := 1048) (by decide +kernel)), rfl⟩
theorem ll_76 : am_lk (.methodLink R_law 76 yX8_games) := ⟨List.mem_append_right _ (List.mem_of_getElem? (i := 528) (by decide +kernel)), rfl⟩
theorem ll_79 : am_lk (.methodLink R_law 79 yX9_games) := ⟨List.mem_append_right _ (List.mem_of_getElem? (i := 1056) (by decide +kernel)), rfl⟩
theorem ll_80 : am_lk (.methodLink R_law 80 yX8_stands) := ⟨List.mem_append_right _ (List.mem_of_getElem? (i := 536) (by decide +kernel)), rfl⟩
theorem ll_83 : am_lk (.methodLink R_law 83 yX9_stands) := ⟨List.mem_append_right _ (List.mem_of_getElem? (i := 1060) (by decide +kernel)), rfl⟩
theorem ll_84 : am_lk (.methodLink R_law 84 yX8_winner) := ⟨List.mem_append_right _ (List.mem_of_getElem? (i := 540) (by decide +kernel)), rfl⟩
theorem ll_87 : am_lk (.methodLink R_law 87 yX9_winner) := ⟨List.mem_append_right _ (List.mem_of_getElem? (i := 1064) (by decide +kernel)), rfl⟩
theorem ll_88 : am_lk (.methodLink R_law 88 yX8_met) := ⟨List.mem_append_right _ (List.mem_of_getElem? (i := 544) (by decide +kernel)), rfl⟩
theorem ll_91 : am_lk (.methodLink R_law 91 yX9_met) := ⟨List.mem_append_right _ (List.mem_of_getElem? (i := 1068) (by decide +kernel)), rfl⟩
theorem ll_92 : am_lk (.methodLink R_law 92 yX8_meeting) := ⟨List.mem_append_right _ (List.mem_of_getElem? (i := 552) (by decide +kernel)), rfl⟩
theorem ll_95 : am_lk (.methodLink R_law 95 yX9_meeting) := ⟨List.mem_append_right _ (List.mem_of_getElem? (i := 1072) (by decide +kernel)), rfl⟩
theorem ll_96 : am_lk (.methodLink R_law 96 yX8_court) := ⟨List.mem_append_right _ (List.mem_of_getElem? (i := 564) (by decide +kernel)), rfl⟩
theorem ll_100 : am_lk (.methodLink R_law 100 yX9_court) := ⟨List.mem_append_right _ (List.mem_of_getElem? (i := 1080) (by decide +kernel)), rfl⟩
theorem ll_101 : am_lk (.methodLink R_law 101 yX8_rule) := ⟨List.mem_append_right _ (List.mem_of_getElem? (i := 576) (by decide +kernel)), rfl⟩
theorem ll_104 : am_lk (.methodLink R_law 104 yX9_rule) := ⟨List.mem_append_right _ (List.mem_of_getElem? (i := 1091) (by decide +kernel)), rfl⟩
theorem ll_105 : am_lk (.methodLink R_law 105 yX8_rain) := ⟨List.mem_append_right _ (List.mem_of_getElem? (i := 580) (by decide +kernel)), rfl⟩
theorem ll_109 : am_lk (.methodLink R_law 109 yX9_rain) := ⟨List.mem_append_right _ (List.mem_of_getElem? (i := 1095) (by decide +kernel)), rfl⟩
theorem ll_110 : am_lk (.methodLink R_law 110 yX8_slot) := ⟨List.mem_append_right _ (List.mem_of_getElem? (i := 584) (by decide +kernel)), rfl⟩
theorem ll_113 : am_lk (.methodLink R_law 113 yX9_slot) := ⟨List.mem_append_right _ (List.mem_of_getElem? (i := 1099) (by decide +kernel)), rfl⟩
theorem ll_114 : am_lk (.methodLink R_law 114 yX8_gap) := ⟨List.mem_append_right _ (List.mem_of_getElem? (i := 595) (by decide +kernel)), rfl⟩
theorem ll_117 : am_lk (.methodLink R_law 117 yX9_gap) := ⟨List.mem_append_right _ (List.mem_of_getElem? (i := 1110) (by decide +kernel)), rfl⟩
theorem ll_118 : am_lk (.methodLink R_law 118 yX8_drop) := ⟨List.mem_append_right _ (List.mem_of_getElem? (i := 599) (by decide +kernel)), rfl⟩
theorem ll_121 : am_lk (.methodLink R_law 121 yX9_drop) := ⟨List.mem_append_right _ (List.mem_of_getElem? (i := 1114) (by decide +kernel)), rfl⟩
theorem ll_122 : am_lk (.methodLink R_law 122 yX8_held) := ⟨List.mem_append_right _ (List.mem_of_getElem? (i := 611) (by decide +kernel)), rfl⟩
theorem ll_125 : am_lk (.methodLink R_law 125 yX9_held) := ⟨List.mem_append_right _ (List.mem_of_getElem? (i := 1122) (by decide +kernel)), rfl⟩
theorem ll_126 : am_lk (.methodLink R_law 126 yX8_time) := ⟨List.mem_append_right _ (List.mem_of_getElem? (i := 615) (by decide +kernel)), rfl⟩
theorem ll_129 : am_lk (.methodLink R_law 129 yX9_time) := ⟨List.mem_append_right _ (List.mem_of_getElem? (i := 1126) (by decide +kernel)), rfl⟩
theorem ll_130 : am_lk (.methodLink R_law 130 yX8_over) := ⟨List.mem_append_right _ (List.mem_of_getElem? (i := 695) (by decide +kernel)), rfl⟩
theorem ll_133 : am_lk (.methodLink R_law 133 yX9_over) := ⟨List.mem_append_right _ (List.mem_of_getElem? (i := 1161) (by decide +kernel)), rfl⟩
theorem ll_134 : am_lk (.methodLink R_law 134 yX8_end) := ⟨List.mem_append_right _ (List.mem_of_getElem? (i := 699) (by decide +kernel)), rfl⟩
theorem ll_137 : am_lk (.methodLink R_law 137 yX9_end) := ⟨List.mem_append_right _ (List.mem_of_getElem? (i := 1165) (by decide +kernel)), rfl⟩
theorem ll_138 : am_lk (.methodLink R_law 138 yX8_why) := ⟨List.mem_append_right _ (List.mem_of_getElem? (i := 703) (by decide +kernel)), rfl⟩
theorem ll_141 : am_lk (.methodLink R_law 141 yX9_why) := ⟨List.mem_append_right _ (List.mem_of_getElem? (i := 1169) (by decide +kernel)), rfl⟩
theorem ll_142 : am_lk (.methodLink R_law 142 yX8_worth) := ⟨List.mem_append_right _ (List.mem_of_getElem? (i := 714) (by decide +kernel)), rfl⟩
theorem ll_145 : am_lk (.methodLink R_law 145 yX9_worth) := ⟨List.mem_append_right _ (List.mem_of_getElem? (i := 1177) (by decide +kernel)), rfl⟩
theorem ll_146 : am_lk (.methodLink R_law 146 yX8_fitted) := ⟨List.mem_append_right _ (List.mem_of_getElem? (i := 718) (by decide +kernel)), rfl⟩
theorem ll_149 : am_lk (.methodLink R_law 149 yX9_fitted) := ⟨List.mem_append_right _ (List.mem_of_getElem? (i := 1181) (by decide +kernel)), rfl⟩
theorem lg_k0 {D : va_G} {a : Nat → ClassId} {u v : Nat → Nat} {b L : Nat} {xs : Nat → Int32} {H0 : Heap} {G : lg_G} {i : Nat} {hx hm : am_M} (g : lg_Gd D a b L xs H0 G) (ok : lg_ok D a u v H0) (hL : L ≤ 3072) (hi : i + 6 ≤ L) (r : Rel hx hm) (nx : ∀ hx1 hm1, Rel hx1 hm1 → lg_J D a u v H0 G 1347 (lg_lv b u v i) [] hx1 hm1) : lg_J D a u v H0 G 180 (lg_lv b u v i) [] hx hm := by
  obtain ⟨val, hx1, hm1, e1, e2, r1⟩ := e_land r (ag xs i 1) (ag xs i 2) 
  refine lg_a1 g dL_law_180 ?_
  refine lg_ar g hL hi 1 (by decide) (kn := 1) (by decide) dL_law_181 dL_law_182 dL_law_183 dL_law_184 dL_law_185 ?_
  refine lg_ar g hL hi 2 (by decide) (kn := 2) (by decide) dL_law_186 dL_law_187 dL_law_188 dL_law_189 dL_law_190 ?_
  refine lg_cX g ok (cX8_landC (ag xs i 1) (ag xs i 2) hx) mi_X8_land ll_13 dL_law_191 rfl (by decide) (fun w hw => by
    simp only [List.mem_cons, List.not_mem_nil, or_false] at hw
    rcases hw with rfl | rfl
    · exact ag_in xs i 1
    · exact ag_in xs i 2) e1 (Nat.le_of_ble_eq_true rfl) rfl ?_
  refine lg_a2 g dL_law_194 ?_
  refine lg_ar g hL hi 1 (by decide) (kn := 1) (by decide) dL_law_195 dL_law_196 dL_law_197 dL_law_198 dL_law_199 ?_
  refine lg_ar g hL hi 2 (by decide) (kn := 2) (by decide) dL_law_200 dL_law_201 dL_law_202 dL_law_203 dL_law_204 ?_
  refine lg_cM g ok (cX9_landC (ag xs i 1) (ag xs i 2) hm) mi_X9_land ll_17 dL_law_205 rfl (by decide) (fun w hw => by
    simp only [List.mem_cons, List.not_mem_nil, or_false] at hw
    rcases hw with rfl | rfl
    · exact ag_in xs i 1
    · exact ag_in xs i 2) e2 (Nat.le_of_ble_eq_true rfl) rfl ?_
  exact lg_eq g dL_law_208 (by decide) (nx hx1 hm1 r1)
theorem lg_k1 {D : va_G} {a : Nat → ClassId} {u v : Nat → Nat} {b L : Nat} {xs : Nat → Int32} {H0 : Heap} {G : lg_G} {i : Nat} {hx hm : am_M} (g : lg_Gd D a b L xs H0 G) (ok : lg_ok D a u v H0) (hL : L ≤ 3072) (hi : i + 6 ≤ L) (r : Rel hx hm) (nx : ∀ hx1 hm1, Rel hx1 hm1 → lg_J D a u v H0 G 1347 (lg_lv b u v i) [] hx1 hm1) : lg_J D a u v H0 G 213 (lg_lv b u v i) [] hx hm := by
  obtain ⟨val, hx1, hm1, e1, e2, r1⟩ := e_draw r (ag xs i 1) (ag xs i 2) (ag xs i 3) 
  refine lg_a1 g dL_law_213 ?_
  refine lg_ar g hL hi 1 (by decide) (kn := 1) (by decide) dL_law_214 dL_law_215 dL_law_216 dL_law_217 dL_law_218 ?_
  refine lg_ar g hL hi 2 (by decide) (kn := 2) (by decide) dL_law_219 dL_law_220 dL_law_221 dL_law_222 dL_law_223 ?_
  refine lg_ar g hL hi 3 (by decide) (kn := 3) (by decide) dL_law_224 dL_law_225 dL_law_226 dL_law_227 dL_law_228 ?_
  refine lg_cX g ok (cX8_drawC (ag xs i 1) (ag xs i 2) (ag xs i 3) hx) mi_X8_draw ll_18 dL_law_229 rfl (by decide) (fun w hw => by
    simp only [List.mem_cons, List.not_mem_nil, or_false] at hw
    rcases hw with rfl | rfl | rfl
    · exact ag_in xs i 1
    · exact ag_in xs i 2
    · exact ag_in xs i 3) e1 (Nat.le_of_ble_eq_true rfl) rfl ?_
  refine lg_a2 g dL_law_232 ?_
  refine lg_ar g hL hi 1 (by decide) (kn := 1) (by decide) dL_law_233 dL_law_234 dL_law_235 dL_law_236 dL_law_237 ?_
  refine lg_ar g hL hi 2 (by decide) (kn := 2) (by decide) dL_law_238 dL_law_239 dL_law_240 dL_law_241 dL_law_242 ?_
  refine lg_ar g hL hi 3 (by decide) (kn := 3) (by decide) dL_law_243 dL_law_244 dL_law_245 dL_law_246 dL_law_247 ?_
  refine lg_cM g ok (cX9_drawC (ag xs i 1) (ag xs i 2) (ag xs i 3) hm) mi_X9_draw ll_22 dL_law_248 rfl (by decide) (fun w hw => by
    simp only [List.mem_cons, List.not_mem_nil, or_false] at hw
    rcases hw with rfl | rfl | rfl
    · exact ag_in xs i 1
    · exact ag_in xs i 2
    · exact ag_in xs i 3) e2 (Nat.le_of_ble_eq_true rfl) rfl ?_
  exact lg_eq g dL_law_251 (by decide) (nx hx1 hm1 r1)
theorem lg_k2 {D : va_G} {a : Nat → ClassId} {u v : Nat → Nat} {b L : Nat} {xs : Nat → Int32} {H0 : Heap} {G : lg_G} {i : Nat} {hx hm : am_M} (g : lg_Gd D a b L xs H0 G) (ok : lg_ok D a u v H0) (hL : L ≤ 3072) (hi : i + 6 ≤ L) (r : Rel hx hm) (nx : ∀ hx1 hm1, Rel hx1 hm1 → lg_J D a u v H0 G 1347 (lg_lv b u v i) [] hx1 hm1) : lg_J D a u v H0 G 256 (lg_lv b u v i) [] hx hm := by
  obtain ⟨val, hx1, hm1, e1, e2, r1⟩ := e_enter r (ag xs i 1) (ag xs i 2) 
  refine lg_a1 g dL_law_256 ?_
  refine lg_ar g hL hi 1 (by decide) (kn := 1) (by decide) dL_law_257 dL_law_258 dL_law_259 dL_law_260 dL_law_261 ?_
  refine lg_ar g hL hi 2 (by decide) (kn := 2) (by decide) dL_law_262 dL_law_263 dL_law_264 dL_law_265 dL_law_266 ?_
  refine lg_cX g ok (cX8_enterC (ag xs i 1) (ag xs i 2) hx) mi_X8_enter ll_23 dL_law_267 rfl (by decide) (fun w hw => by
    simp only [List.mem_cons, List.not_mem_nil, or_false] at hw
    rcases hw with rfl | rfl
    · exact ag_in xs i 1
    · exact ag_in xs i 2) e1 (Nat.le_of_ble_eq_true rfl) rfl ?_
  refine lg_a2 g dL_law_270 ?_
  refine lg_ar g hL hi 1 (by decide) (kn := 1) (by decide) dL_law_271 dL_law_272 dL_law_273 dL_law_274 dL_law_275 ?_
  refine lg_ar g hL hi 2 (by decide) (kn := 2) (by decide) dL_law_276 dL_law_277 dL_law_278 dL_law_279 dL_law_280 ?_
  refine lg_cM g ok (cX9_enterC (ag xs i 1) (ag xs i 2) hm) mi_X9_enter ll_26 dL_law_281 rfl (by decide) (fun w hw => by
    simp only [List.mem_cons, List.not_mem_nil, or_false] at hw
    rcases hw with rfl | rfl
    · exact ag_in xs i 1
    · exact ag_in xs i 2) e2 (Nat.le_of_ble_eq_true rfl) rfl ?_
  exact lg_eq g dL_law_284 (by decide) (nx hx1 hm1 r1)
theorem lg_k3 {D : va_G} {a : Nat → ClassId} {u v : Nat → Nat} {b L : Nat} {xs : Nat → Int32} {H0 : Heap} {G : lg_G} {i : Nat} {hx hm : am_M} (g : lg_Gd D a b L xs H0 G) (ok : lg_ok D a u v H0) (hL : L ≤ 3072) (hi : i + 6 ≤ L) (r : Rel hx hm) (nx : ∀ hx1 hm1, Rel hx1 hm1 → lg_J D a u v H0 G 1347 (lg_lv b u v i) [] hx1 hm1) : lg_J D a u v H0 G 289 (lg_lv b u v i) [] hx hm := by
  obtain ⟨val, hx1, hm1, e1, e2, r1⟩ := e_seeds r (ag xs i 1) (ag xs i 2) 
  refine lg_a1 g dL_law_289 ?_
  refine lg_ar g hL hi 1 (by decide) (kn := 1) (by decide) dL_law_290 dL_law_291 dL_law_292 dL_law_293 dL_law_294 ?_
  refine lg_ar g hL hi 2 (by decide) (kn := 2) (by decide) dL_law_295 dL_law_296 dL_law_297 dL_law_298 dL_law_299 ?_
  refine lg_cX g ok (cX8_seedsC (ag xs i 1) (ag xs i 2) hx) mi_X8_seeds ll_27 dL_law_300 rfl (by decide) (fun w hw => by
    simp only [List.mem_cons, List.not_mem_nil, or_false] at hw
    rcases hw with rfl | rfl
    · exact ag_in xs i 1
    · exact ag_in xs i 2) e1 (Nat.le_of_ble_eq_true rfl) rfl ?_
  refine lg_a2 g dL_law_303 ?_
  refine lg_ar g hL hi 1 (by decide) (kn := 1) (by decide) dL_law_304 dL_law_305 dL_law_306 dL_law_307 dL_law_308 ?_
  refine lg_ar g hL hi 2 (by decide) (kn := 2) (by decide) dL_law_309 dL_law_310 dL_law_311 dL_law_312 dL_law_313 ?_
  refine lg_cM g ok (cX9_seedsC (ag xs i 1) (ag xs i 2) hm) mi_X9_seeds ll_30 dL_law_314 rfl (by decide) (fun w hw => by
    simp only [List.mem_cons, List.not_mem_nil, or_false] at hw
    rcases hw with rfl | rfl
    · exact ag_in xs i 1
    · exact ag_in xs i 2) e2 (Nat.le_of_ble_eq_true rfl) rfl ?_
  exact lg_eq g dL_law_317 (by decide) (nx hx1 hm1 r1)
theorem lg_k4 {D : va_G} {a : Nat → ClassId} {u v : Nat → Nat} {b L : Nat} {xs : Nat → Int32} {H0 : Heap} {G : lg_G} {i : Nat} {hx hm : am_M} (g : lg_Gd D a b L xs H0 G) (ok : lg_ok D a u v H0) (hL : L ≤ 3072) (hi : i + 6 ≤ L) (r : Rel hx hm) (nx : ∀ hx1 hm1, Rel hx1 hm1 → lg_J D a u v H0 G 1347 (lg_lv b u v i) [] hx1 hm1) : lg_J D a u v H0 G 322 (lg_lv b u v i) [] hx hm := by
  obtain ⟨val, hx1, hm1, e1, e2, r1⟩ := e_lay r (ag xs i 1) (ag xs i 2) 
  refine lg_a1 g dL_law_322 ?_
  refine lg_ar g hL hi 1 (by decide) (kn := 1) (by decide) dL_law_323 dL_law_324 dL_law_325 dL_law_326 dL_law_327 ?_
  refine lg_ar g hL hi 2 (by decide) (kn := 2) (by decide) dL_law_328 dL_law_329 dL_law_330 dL_law_331 dL_law_332 ?_
  refine lg_cX g ok (cX8_layC (ag xs i 1) (ag xs i 2) hx) mi_X8_lay ll_31 dL_law_333 rfl (by decide) (fun w hw => by
    simp only [List.mem_cons, List.not_mem_nil, or_false] at hw
    rcases hw with rfl | rfl
    · exact ag_in xs i 1
    · exact ag_in xs i 2) e1 (Nat.le_of_ble_eq_true rfl) rfl ?_
  refine lg_a2 g dL_law_336 ?_
  refine lg_ar g hL hi 1 (by decide) (kn := 1) (by decide) dL_law_337 dL_law_338 dL_law_339 dL_law_340 dL_law_341 ?_
  refine lg_ar g hL hi 2 (by decide) (kn := 2) (by decide) dL_law_342 dL_law_343 dL_law_344 dL_law_345 dL_law_346 ?_
  refine lg_cM g ok (cX9_layC (ag xs i 1) (ag xs i 2) hm) mi_X9_lay ll_34 dL_law_347 rfl (by decide) (fun w hw => by
    simp only [List.mem_cons, List.not_mem_nil, or_false] at hw
    rcases hw with rfl | rfl
    · exact ag_in xs i 1
    · exact ag_in xs i 2) e2 (Nat.le_of_ble_eq_true rfl) rfl ?_
  exact lg_eq g dL_law_350 (by decide) (nx hx1 hm1 r1)
theorem lg_k5 {D : va_G} {a : Nat → ClassId} {u v : Nat → Nat} {b L : Nat} {xs : Nat → Int32} {H0 : Heap} {G : lg_G} {i : Nat} {hx hm : am_M} (g : lg_Gd D a b L xs H0 G) (ok : lg_ok D a u v H0) (hL : L ≤ 3072) (hi : i + 6 ≤ L) (r : Rel hx hm) (nx : ∀ hx1 hm1, Rel hx1 hm1 → lg_J D a u v H0 G 1347 (lg_lv b u v i) [] hx1 hm1) : lg_J D a u v H0 G 355 (lg_lv b u v i) [] hx hm := by
  obtain ⟨val, hx1, hm1, e1, e2, r1⟩ := e_place r (ag xs i 1) (ag xs i 2) 
  refine lg_a1 g dL_law_355 ?_
  refine lg_ar g hL hi 1 (by decide) (kn := 1) (by decide) dL_law_356 dL_law_357 dL_law_358 dL_law_359 dL_law_360 ?_
  refine lg_ar g hL hi 2 (by decide) (kn := 2) (by decide) dL_law_361 dL_law_362 dL_law_363 dL_law_364 dL_law_365 ?_
  refine lg_cX g ok (cX8_placeC (ag xs i 1) (ag xs i 2) hx) mi_X8_place ll_35 dL_law_366 rfl (by decide) (fun w hw => by
    simp only [List.mem_cons, List.not_mem_nil, or_false] at hw
    rcases hw with rfl | rfl
    · exact ag_in xs i 1
    · exact ag_in xs i 2) e1 (Nat.le_of_ble_eq_true rfl) rfl ?_
  refine lg_a2 g dL_law_369 ?_
  refine lg_ar g hL hi 1 (by decide) (kn := 1) (by decide) dL_law_370 dL_law_371 dL_law_372 dL_law_373 dL_law_374 ?_
  refine lg_ar g hL hi 2 (by decide) (kn := 2) (by decide) dL_law_375 dL_law_376 dL_law_377 dL_law_378 dL_law_379 ?_
  refine lg_cM g ok (cX9_placeC (ag xs i 1) (ag xs i 2) hm) mi_X9_place ll_38 dL_law_380 rfl (by decide) (fun w hw => by
    simp only [List.mem_cons, List.not_mem_nil, or_false] at hw
    rcases hw with rfl | rfl
    · exact ag_in xs i 1
    · exact ag_in xs i 2) e2 (Nat.le_of_ble_eq_true rfl) rfl ?_
  exact lg_eq g dL_law_383 (by decide) (nx hx1 hm1 r1)
theorem lg_k6 {D : va_G} {a : Nat → ClassId} {u v : Nat → Nat} {b L : Nat} {xs : Nat → Int32} {H0 : Heap} {G : lg_G} {i : Nat} {hx hm : am_M} (g : lg_Gd D a b L xs H0 G) (ok : lg_ok D a u v H0) (hL : L ≤ 3072) (hi : i + 6 ≤ L) (r : Rel hx hm) (nx : ∀ hx1 hm1, Rel hx1 hm1 → lg_J D a u v H0 G 1347 (lg_lv b u v i) [] hx1 hm1) : lg_J D a u v H0 G 388 (lg_lv b u v i) [] hx hm := by
  obtain ⟨val, hx1, hm1, e1, e2, r1⟩ := e_of r (ag xs i 1) (ag xs i 2) 
  refine lg_a1 g dL_law_388 ?_
  refine lg_ar g hL hi 1 (by decide) (kn := 1) (by decide) dL_law_389 dL_law_390 dL_law_391 dL_law_392 dL_law_393 ?_
  refine lg_ar g hL hi 2 (by decide) (kn := 2) (by decide) dL_law_394 dL_law_395 dL_law_396 dL_law_397 dL_law_398 ?_
  refine lg_cX g ok (cX8_ofC (ag xs i 1) (ag xs i 2) hx) mi_X8_of ll_39 dL_law_399 rfl (by decide) (fun w hw => by
    simp only [List.mem_cons, List.not_mem_nil, or_false] at hw
    rcases hw with rfl | rfl
    · exact ag_in xs i 1
    · exact ag_in xs i 2) e1 (Nat.le_of_ble_eq_true rfl) rfl ?_
  refine lg_a2 g dL_law_402 ?_
  refine lg_ar g hL hi 1 (by decide) (kn := 1) (by decide) dL_law_403 dL_law_404 dL_law_405 dL_law_406 dL_law_407 ?_
  refine lg_ar g hL hi 2 (by decide) (kn := 2) (by decide) dL_law_408 dL_law_409 dL_law_410 dL_law_411 dL_law_412 ?_
  refine lg_cM g ok (cX9_ofC (ag xs i 1) (ag xs i 2) hm) mi_X9_of ll_42 dL_law_413 rfl (by decide) (fun w hw => by
    simp only [List.mem_cons, List.not_mem_nil, or_false] at hw
    rcases hw with rfl | rfl
    · exact ag_in xs i 1
    · exact ag_in xs i 2) e2 (Nat.le_of_ble_eq_true rfl) rfl ?_
  exact lg_eq g dL_law_416 (by decide) (nx hx1 hm1 r1)
theorem lg_k7 {D : va_G} {a : Nat → ClassId} {u v : Nat → Nat} {b L : Nat} {xs : Nat → Int32} {H0 : Heap} {G : lg_G} {i : Nat} {hx hm : am_M} (g : lg_Gd D a b L xs H0 G) (ok : lg_ok D a u v H0) (hL : L ≤ 3072) (hi : i + 6 ≤ L) (r : Rel hx hm) (nx : ∀ hx1 hm1, Rel hx1 hm1 → lg_J D a u v H0 G 1347 (lg_lv b u v i) [] hx1 hm1) : lg_J D a u v H0 G 421 (lg_lv b u v i) [] hx hm := by
  obtain ⟨val, hx1, hm1, e1, e2, r1⟩ := e_lucky r (ag xs i 1) (ag xs i 2) (ag xs i 3) 
  refine lg_a1 g dL_law_421 ?_
  refine lg_ar g hL hi 1 (by decide) (kn := 1) (by decide) dL_law_422 dL_law_423 dL_law_424 dL_law_425 dL_law_426 ?_
  refine lg_ar g hL hi 2 (by decide) (kn := 2) (by decide) dL_law_427 dL_law_428 dL_law_429 dL_law_430 dL_law_431 ?_
  refine lg_ar g hL hi 3 (by decide) (kn := 3) (by decide) dL_law_432 dL_law_433 dL_law_434 dL_law_435 dL_law_436 ?_
  refine lg_cX g ok (cX8_luckyC (ag xs i 1) (ag xs i 2) (ag xs i 3) hx) mi_X8_lucky ll_43 dL_law_437 rfl (by decide) (fun w hw => by
    simp only [List.mem_cons, List.not_mem_nil, or_false] at hw
    rcases hw with rfl | rfl | rfl
    · exact ag_in xs i 1
    · exact ag_in xs i 2
    · exact ag_in xs i 3) e1 (Nat.le_of_ble_eq_true rfl) rfl ?_
  refine lg_a2 g dL_law_440 ?_
  refine lg_ar g hL hi 1 (by decide) (kn := 1) (by decide) dL_law_441 dL_law_442 dL_law_443 dL_law_444 dL_law_445 ?_
  refine lg_ar g hL hi 2 (by decide) (kn := 2) (by decide) dL_law_446 dL_law_447 dL_law_448 dL_law_449 dL_law_450 ?_
  refine lg_ar g hL hi 3 (by decide) (kn := 3) (by decide) dL_law_451 dL_law_452 dL_law_453 dL_law_454 dL_law_455 ?_
  refine lg_cM g ok (cX9_luckyC (ag xs i 1) (ag xs i 2) (ag xs i 3) hm) mi_X9_lucky ll_46 dL_law_456 rfl (by decide) (fun w hw => by
    simp only [List.mem_cons, List.not_mem_nil, or_false] at hw
    rcases hw with rfl | rfl | rfl
    · exact ag_in xs i 1
    · exact ag_in xs i 2
    · exact ag_in xs i 3) e2 (Nat.le_of_ble_eq_true rfl) rfl ?_
  exact lg_eq g dL_law_459 (by decide) (nx hx1 hm1 r1)
theorem lg_k8 {D : va_G} {a : Nat → ClassId} {u v : Nat → Nat} {b L : Nat} {xs : Nat → Int32} {H0 : Heap} {G : lg_G} {i : Nat} {hx hm : am_M} (g : lg_Gd D a b L xs H0 G) (ok : lg_ok D a u v H0) (hL : L ≤ 3072) (hi : i + 6 ≤ L) (r : Rel hx hm) (nx : ∀ hx1 hm1, Rel hx1 hm1 → lg_J D a u v H0 G 1347 (lg_lv b u v i) [] hx1 hm1) : lg_J D a u v H0 G 464 (lg_lv b u v i) [] hx hm := by
  obtain ⟨val, hx1, hm1, e1, e2, r1⟩ := e_side r (ag xs i 1) (ag xs i 2) (ag_in xs i 1)
  refine lg_a1 g dL_law_464 ?_
  refine lg_ar g hL hi 1 (by decide) (kn := 1) (by decide) dL_law_465 dL_law_466 dL_law_467 dL_law_468 dL_law_469 ?_
  refine lg_ar g hL hi 2 (by decide) (kn := 2) (by decide) dL_law_470 dL_law_471 dL_law_472 dL_law_473 dL_law_474 ?_
  refine lg_cX g ok (cX8_sideC (ag xs i 1) (ag xs i 2) hx) mi_X8_side ll_47 dL_law_475 rfl (by decide) (fun w hw => by
    simp only [List.mem_cons, List.not_mem_nil, or_false] at hw
    rcases hw with rfl | rfl
    · exact ag_in xs i 1
    · exact ag_in xs i 2) e1 (Nat.le_of_ble_eq_true rfl) rfl ?_
  refine lg_a2 g dL_law_478 ?_
  refine lg_ar g hL hi 1 (by decide) (kn := 1) (by decide) dL_law_479 dL_law_480 dL_law_481 dL_law_482 dL_law_483 ?_
  refine lg_ar g hL hi 2 (by decide) (kn := 2) (by decide) dL_law_484 dL_law_485 dL_law_486 dL_law_487 dL_law_488 ?_
  refine lg_cM g ok (cX9_sideC (ag xs i 1) (ag xs i 2) hm) mi_X9_side ll_50 dL_law_489 rfl (by decide) (fun w hw => by
    simp only [List.mem_cons, List.not_mem_nil, or_false] at hw
    rcases hw with rfl | rfl
    · exact ag_in xs i 1
    · exact ag_in xs i 2) e2 (Nat.le_of_ble_eq_true rfl) rfl ?_
  exact lg_eq g dL_law_492 (by decide) (nx hx1 hm1 r1)
theorem lg_k9 {D : va_G} {a : Nat → ClassId} {u v : Nat → Nat} {b L : Nat} {xs : Nat → Int32} {H0 : Heap} {G : lg_G} {i : Nat} {hx hm : am_M} (g : lg_Gd D a b L xs H0 G) (ok : lg_ok D a u v H0) (hL : L ≤ 3072) (hi : i + 6 ≤ L) (r : Rel hx hm) (nx : ∀ hx1 hm1, Rel hx1 hm1 → lg_J D a u v H0 G 1347 (lg_lv b u v i) [] hx1 hm1) : lg_J D a u v H0 G 497 (lg_lv b u v i) [] hx hm := by
  obtain ⟨val, hx1, hm1, e1, e2, r1⟩ := e_point r (ag xs i 1) (ag xs i 2) (ag_in xs i 1)
  refine lg_a1 g dL_law_497 ?_
  refine lg_ar g hL hi 1 (by decide) (kn := 1) (by decide) dL_law_498 dL_law_499 dL_law_500 dL_law_501 dL_law_502 ?_
  refine lg_ar g hL hi 2 (by decide) (kn := 2) (by decide) dL_law_503 dL_law_504 dL_law_505 dL_law_506 dL_law_507 ?_
  refine lg_cX g ok (cX8_pointC (ag xs i 1) (ag xs i 2) hx) mi_X8_point ll_51 dL_law_508 rfl (by decide) (fun w hw => by
    simp only [List.mem_cons, List.not_mem_nil, or_false] at hw
    rcases hw with rfl | rfl
    · exact ag_in xs i 1
    · exact ag_in xs i 2) e1 (Nat.le_of_ble_eq_true rfl) rfl ?_
  refine lg_a2 g dL_law_511 ?_
  refine lg_ar g hL hi 1 (by decide) (kn := 1) (by decide) dL_law_512 dL_law_513 dL_law_514 dL_law_515 dL_law_516 ?_
  refine lg_ar g hL hi 2 (by decide) (kn := 2) (by decide) dL_law_517 dL_law_518 dL_law_519 dL_law_520 dL_law_521 ?_
  refine lg_cM g ok (cX9_pointC (ag xs i 1) (ag xs i 2) hm) mi_X9_point ll_54 dL_law_522 rfl (by decide) (fun w hw => by
    simp only [List.mem_cons, List.not_mem_nil, or_false] at hw
    rcases hw with rfl | rfl
    · exact ag_in xs i 1
    · exact ag_in xs i 2) e2 (Nat.le_of_ble_eq_true rfl) rfl ?_
  exact lg_eq g dL_law_525 (by decide) (nx hx1 hm1 r1)
theorem lg_k10 {D : va_G} {a : Nat → ClassId} {u v : Nat → Nat} {b L : Nat} {xs : Nat → Int32} {H0 : Heap} {G : lg_G} {i : Nat} {hx hm : am_M} (g : lg_Gd D a b L xs H0 G) (ok : lg_ok D a u v H0) (hL : L ≤ 3072) (hi : i + 6 ≤ L) (r : Rel hx hm) (nx : ∀ hx1 hm1, Rel hx1 hm1 → lg_J D a u v H0 G 1347 (lg_lv b u v i) [] hx1 hm1) : lg_J D a u v H0 G 530 (lg_lv b u v i) [] hx hm := by
  obtain ⟨val, hx1, hm1, e1, e2, r1⟩ := e_back r (ag xs i 1) (ag_in xs i 1)
  refine lg_a1 g dL_law_530 ?_
  refine lg_ar g hL hi 1 (by decide) (kn := 1) (by decide) dL_law_531 dL_law_532 dL_law_533 dL_law_534 dL_law_535 ?_
  refine lg_cX g ok (cX8_backC (ag xs i 1) hx) mi_X8_back ll_55 dL_law_536 rfl (by decide) (fun w hw => by
    rw [List.mem_singleton.mp hw]
    exact ag_in xs i 1) e1 (Nat.le_of_ble_eq_true rfl) rfl ?_
  refine lg_a2 g dL_law_539 ?_
  refine lg_ar g hL hi 1 (by decide) (kn := 1) (by decide) dL_law_540 dL_law_541 dL_law_542 dL_law_543 dL_law_544 ?_
  refine lg_cM g ok (cX9_backC (ag xs i 1) hm) mi_X9_back ll_59 dL_law_545 rfl (by decide) (fun w hw => by
    rw [List.mem_singleton.mp hw]
    exact ag_in xs i 1) e2 (Nat.le_of_ble_eq_true rfl) rfl ?_
  exact lg_eq g dL_law_548 (by decide) (nx hx1 hm1 r1)
theorem lg_k11 {D : va_G} {a : Nat → ClassId} {u v : Nat → Nat} {b L : Nat} {xs : Nat → Int32} {H0 : Heap} {G : lg_G} {i : Nat} {hx hm : am_M} (g : lg_Gd D a b L xs H0 G) (ok : lg_ok D a u v H0) (hL : L ≤ 3072) (hi : i + 6 ≤ L) (r : Rel hx hm) (nx : ∀ hx1 hm1, Rel hx1 hm1 → lg_J D a u v H0 G 1347 (lg_lv b u v i) [] hx1 hm1) : lg_J D a u v H0 G 553 (lg_lv b u v i) [] hx hm := by
  obtain ⟨val, hx1, hm1, e1, e2, r1⟩ := e_walk r (ag xs i 1) (ag xs i 2) (ag_in xs i 1)
  refine lg_a1 g dL_law_553 ?_
  refine lg_ar g hL hi 1 (by decide) (kn := 1) (by decide) dL_law_554 dL_law_555 dL_law_556 dL_law_557 dL_law_558 ?_
  refine lg_ar g hL hi 2 (by decide) (kn := 2) (by decide) dL_law_559 dL_law_560 dL_law_561 dL_law_562 dL_law_563 ?_
  refine lg_cX g ok (cX8_walkC (ag xs i 1) (ag xs i 2) hx) mi_X8_walk ll_60 dL_law_564 rfl (by decide) (fun w hw => by
    simp only [List.mem_cons, List.not_mem_nil, or_false] at hw
    rcases hw with rfl | rfl
    · exact ag_in xs i 1
    · exact ag_in xs i 2) e1 (Nat.le_of_ble_eq_true rfl) rfl ?_
  refine lg_a2 g dL_law_567 ?_
  refine lg_ar g hL hi 1 (by decide) (kn := 1) (by decide) dL_law_568 dL_law_569 dL_law_570 dL_law_571 dL_law_572 ?_
  refine lg_ar g hL hi 2 (by decide) (kn := 2) (by decide) dL_law_573 dL_law_574 dL_law_575 dL_law_576 dL_law_577 ?_
  refine lg_cM g ok (cX9_walkC (ag xs i 1) (ag xs i 2) hm) mi_X9_walk ll_63 dL_law_578 rfl (by decide) (fun w hw => by
    simp only [List.mem_cons, List.not_mem_nil, or_false] at hw
    rcases hw with rfl | rfl
    · exact ag_in xs i 1
    · exact ag_in xs i 2) e2 (Nat.le_of_ble_eq_true rfl) rfl ?_
  exact lg_eq g dL_law_581 (by decide) (nx hx1 hm1 r1)
theorem lg_k12 {D : va_G} {a : Nat → ClassId} {u v : Nat → Nat} {b L : Nat} {xs : Nat → Int32} {H0 : Heap} {G : lg_G} {i : Nat} {hx hm : am_M} (g : lg_Gd D a b L xs H0 G) (ok : lg_ok D a u v H0) (hL : L ≤ 3072) (hi : i + 6 ≤ L) (r : Rel hx hm) (nx : ∀ hx1 hm1, Rel hx1 hm1 → lg_J D a u v H0 G 1347 (lg_lv b u v i) [] hx1 hm1) : lg_J D a u v H0 G 586 (lg_lv b u v i) [] hx hm := by
  obtain ⟨val, hx1, hm1, e1, e2, r1⟩ := e_retire r (ag xs i 1) (ag xs i 2) (ag_in xs i 1) (ag_in xs i 2)
  refine lg_a1 g dL_law_586 ?_
  refine lg_ar g hL hi 1 (by decide) (kn := 1) (by decide) dL_law_587 dL_law_588 dL_law_589 dL_law_590 dL_law_591 ?_
  refine lg_ar g hL hi 2 (by decide) (kn := 2) (by decide) dL_law_592 dL_law_593 dL_law_594 dL_law_595 dL_law_596 ?_
  refine lg_cX g ok (cX8_retireC (ag xs i 1) (ag xs i 2) hx) mi_X8_retire ll_64 dL_law_597 rfl (by decide) (fun w hw => by
    simp only [List.mem_cons, List.not_mem_nil, or_false] at hw
    rcases hw with rfl | rfl
    · exact ag_in xs i 1
    · exact ag_in xs i 2) e1 (Nat.le_of_ble_eq_true rfl) rfl ?_
  refine lg_a2 g dL_law_600 ?_
  refine lg_ar g hL hi 1 (by decide) (kn := 1) (by decide) dL_law_601 dL_law_602 dL_law_603 dL_law_604 dL_law_605 ?_
  refine lg_ar g hL hi 2 (by decide) (kn := 2) (by decide) dL_law_606 dL_law_607 dL_law_608 dL_law_609 dL_law_610 ?_
  refine lg_cM g ok (cX9_retireC (ag xs i 1) (ag xs i 2) hm) mi_X9_retire ll_67 dL_law_611 rfl (by decide) (fun w hw => by
    simp only [List.mem_cons, List.not_mem_nil, or_false] at hw
    rcases hw with rfl | rfl
    · exact ag_in xs i 1
    · exact ag_in xs i 2) e2 (Nat.le_of_ble_eq_true rfl) rfl ?_
  exact lg_eq g dL_law_614 (by decide) (nx hx1 hm1 r1)
theorem lg_k13 {D : va_G} {a : Nat → ClassId} {u v : Nat → Nat} {b L : Nat} {xs : Nat → Int32} {H0 : Heap} {G : lg_G} {i : Nat} {hx hm : am_M} (g : lg_Gd D a b L xs H0 G) (ok : lg_ok D a u v H0) (hL : L ≤ 3072) (hi : i + 6 ≤ L) (r : Rel hx hm) (nx : ∀ hx1 hm1, Rel hx1 hm1 → lg_J D a u v H0 G 1347 (lg_lv b u v i) [] hx1 hm1) : lg_J D a u v H0 G 619 (lg_lv b u v i) [] hx hm := by
  obtain ⟨val, hx1, hm1, e1, e2, r1⟩ := e_undo r (ag xs i 1) (ag_in xs i 1)
  refine lg_a1 g dL_law_619 ?_
  refine lg_ar g hL hi 1 (by decide) (kn := 1) (by decide) dL_law_620 dL_law_621 dL_law_622 dL_law_623 dL_law_624 ?_
  refine lg_cX g ok (cX8_undoC (ag xs i 1) hx) mi_X8_undo ll_68 dL_law_625 rfl (by decide) (fun w hw => by
    rw [List.mem_singleton.mp hw]
    exact ag_in xs i 1) e1 (Nat.le_of_ble_eq_true rfl) rfl ?_
  refine lg_a2 g dL_law_628 ?_
  refine lg_ar g hL hi 1 (by decide) (kn := 1) (by decide) dL_law_629 dL_law_630 dL_law_631 dL_law_632 dL_law_633 ?_
  refine lg_cM g ok (cX9_undoC (ag xs i 1) hm) mi_X9_undo ll_71 dL_law_634 rfl (by decide) (fun w hw => by
    rw [List.mem_singleton.mp hw]
    exact ag_in xs i 1) e2 (Nat.le_of_ble_eq_true rfl) rfl ?_
  exact lg_eq g dL_law_637 (by decide) (nx hx1 hm1 r1)
theorem lg_k14 {D : va_G} {a : Nat → ClassId} {u v : Nat → Nat} {b L : Nat} {xs : Nat → Int32} {H0 : Heap} {G : lg_G} {i : Nat} {hx hm : am_M} (g : lg_Gd D a b L xs H0 G) (ok : lg_ok D a u v H0) (hL : L ≤ 3072) (hi : i + 6 ≤ L) (r : Rel hx hm) (nx : ∀ hx1 hm1, Rel hx1 hm1 → lg_J D a u v H0 G 1347 (lg_lv b u v i) [] hx1 hm1) : lg_J D a u v H0 G 642 (lg_lv b u v i) [] hx hm := by
  obtain ⟨val, hx1, hm1, e1, e2, r1⟩ := e_score r (ag xs i 1) (ag xs i 2) (ag_in xs i 1)
  refine lg_a1 g dL_law_642 ?_
  refine lg_ar g hL hi 1 (by decide) (kn := 1) (by decide) dL_law_643 dL_law_644 dL_law_645 dL_law_646 dL_law_647 ?_
  refine lg_ar g hL hi 2 (by decide) (kn := 2) (by decide) dL_law_648 dL_law_649 dL_law_650 dL_law_651 dL_law_652 ?_
  refine lg_cX g ok (cX8_scoreC (ag xs i 1) (ag xs i 2) hx) mi_X8_score ll_72 dL_law_653 rfl (by decide) (fun w hw => by
    simp only [List.mem_cons, List.not_mem_nil, or_false] at hw
    rcases hw with rfl | rfl
    · exact ag_in xs i 1
    · exact ag_in xs i 2) e1 (Nat.le_of_ble_eq_true rfl) rfl ?_
  refine lg_a2 g dL_law_656 ?_
  refine lg_ar g hL hi 1 (by decide) (kn := 1) (by decide) dL_law_657 dL_law_658 dL_law_659 dL_law_660 dL_law_661 ?_
  refine lg_ar g hL hi 2 (by decide) (kn := 2) (by decide) dL_law_662 dL_law_663 dL_law_664 dL_law_665 dL_law_666 ?_
  refine lg_cM g ok (cX9_scoreC (ag xs i 1) (ag xs i 2) hm) mi_X9_score ll_75 dL_law_667 rfl (by decide) (fun w hw => by
    simp only [List.mem_cons, List.not_mem_nil, or_false] at hw
    rcases hw with rfl | rfl
    · exact ag_in xs i 1
    · exact ag_in xs i 2) e2 (Nat.le_of_ble_eq_true rfl) rfl ?_
  exact lg_eq g dL_law_670 (by decide) (nx hx1 hm1 r1)
theorem lg_k15 {D : va_G} {a : Nat → ClassId} {u v : Nat → Nat} {b L : Nat} {xs : Nat → Int32} {H0 : Heap} {G : lg_G} {i : Nat} {hx hm : am_M} (g : lg_Gd D a b L xs H0 G) (ok : lg_ok D a u v H0) (hL : L ≤ 3072) (hi : i + 6 ≤ L) (r : Rel hx hm) (nx : ∀ hx1 hm1, Rel hx1 hm1 → lg_J D a u v H0 G 1347 (lg_lv b u v i) [] hx1 hm1) : lg_J D a u v H0 G 675 (lg_lv b u v i) [] hx hm := by
  obtain ⟨val, hx1, hm1, e1, e2, r1⟩ := e_games r (ag xs i 1) (ag xs i 2) (ag xs i 3) (ag_in xs i 1)
  refine lg_a1 g dL_law_675 ?_
  refine lg_ar g hL hi 1 (by decide) (kn := 1) (by decide) dL_law_676 dL_law_677 dL_law_678 dL_law_679 dL_law_680 ?_
  refine lg_ar g hL hi 2 (by decide) (kn := 2) (by decide) dL_law_681 dL_law_682 dL_law_683 dL_law_684 dL_law_685 ?_
  refine lg_ar g hL hi 3 (by decide) (kn := 3) (by decide) dL_law_686 dL_law_687 dL_law_688 dL_law_689 dL_law_690 ?_
  refine lg_cX g ok (cX8_gamesC (ag xs i 1) (ag xs i 2) (ag xs i 3) hx) mi_X8_games ll_76 dL_law_691 rfl (by decide) (fun w hw => by
    simp only [List.mem_cons, List.not_mem_nil, or_false] at hw
    rcases hw with rfl | rfl | rfl
    · exact ag_in xs i 1
    · exact ag_in xs i 2
    · exact ag_in xs i 3) e1 (Nat.le_of_ble_eq_true rfl) rfl ?_
  refine lg_a2 g dL_law_694 ?_
  refine lg_ar g hL hi 1 (by decide) (kn := 1) (by decide) dL_law_695 dL_law_696 dL_law_697 dL_law_698 dL_law_699 ?_
  refine lg_ar g hL hi 2 (by decide) (kn := 2) (by decide) dL_law_700 dL_law_701 dL_law_702 dL_law_703 dL_law_704 ?_
  refine lg_ar g hL hi 3 (by decide) (kn := 3) (by decide) dL_law_705 dL_law_706 dL_law_707 dL_law_708 dL_law_709 ?_
  refine lg_cM g ok (cX9_gamesC (ag xs i 1) (ag xs i 2) (ag xs i 3) hm) mi_X9_games ll_79 dL_law_710 rfl (by decide) (fun w hw => by
    simp only [List.mem_cons, List.not_mem_nil, or_false] at hw
    rcases hw with rfl | rfl | rfl
    · exact ag_in xs i 1
    · exact ag_in xs i 2
    · exact ag_in xs i 3) e2 (Nat.le_of_ble_eq_true rfl) rfl ?_
  exact lg_eq g dL_law_713 (by decide) (nx hx1 hm1 r1)
theorem lg_k16 {D : va_G} {a : Nat → ClassId} {u v : Nat → Nat} {b L : Nat} {xs : Nat → Int32} {H0 : Heap} {G : lg_G} {i : Nat} {hx hm : am_M} (g : lg_Gd D a b L xs H0 G) (ok : lg_ok D a u v H0) (hL : L ≤ 3072) (hi : i + 6 ≤ L) (r : Rel hx hm) (nx : ∀ hx1 hm1, Rel hx1 hm1 → lg_J D a u v H0 G 1347 (lg_lv b u v i) [] hx1 hm1) : lg_J D a u v H0 G 718 (lg_lv b u v i) [] hx hm := by
  obtain ⟨val, hx1, hm1, e1, e2, r1⟩ := e_stands r (ag xs i 1) (ag_in xs i 1)
  refine lg_a1 g dL_law_718 ?_
  refine lg_ar g hL hi 1 (by decide) (kn := 1) (by decide) dL_law_719 dL_law_720 dL_law_721 dL_law_722 dL_law_723 ?_
  refine lg_cX g ok (cX8_standsC (ag xs i 1) hx) mi_X8_stands ll_80 dL_law_724 rfl (by decide) (fun w hw => by
    rw [List.mem_singleton.mp hw]
    exact ag_in xs i 1) e1 (Nat.le_of_ble_eq_true rfl) rfl ?_
  refine lg_a2 g dL_law_727 ?_
  refine lg_ar g hL hi 1 (by decide) (kn := 1) (by decide) dL_law_728 dL_law_729 dL_law_730 dL_law_731 dL_law_732 ?_
  refine lg_cM g ok (cX9_standsC (ag xs i 1) hm) mi_X9_stands ll_83 dL_law_733 rfl (by decide) (fun w hw => by
    rw [List.mem_singleton.mp hw]
    exact ag_in xs i 1) e2 (Nat.le_of_ble_eq_true rfl) rfl ?_
  exact lg_eq g dL_law_736 (by decide) (nx hx1 hm1 r1)
theorem lg_k17 {D : va_G} {a : Nat → ClassId} {u v : Nat → Nat} {b L : Nat} {xs : Nat → Int32} {H0 : Heap} {G : lg_G} {i : Nat} {hx hm : am_M} (g : lg_Gd D a b L xs H0 G) (ok : lg_ok D a u v H0) (hL : L ≤ 3072) (hi : i + 6 ≤ L) (r : Rel hx hm) (nx : ∀ hx1 hm1, Rel hx1 hm1 → lg_J D a u v H0 G 1347 (lg_lv b u v i) [] hx1 hm1) : lg_J D a u v H0 G 741 (lg_lv b u v i) [] hx hm := by
  obtain ⟨val, hx1, hm1, e1, e2, r1⟩ := e_winner r (ag xs i 1) (ag_in xs i 1)
  refine lg_a1 g dL_law_741 ?_
  refine lg_ar g hL hi 1 (by decide) (kn := 1) (by decide) dL_law_742 dL_law_743 dL_law_744 dL_law_745 dL_law_746 ?_
  refine lg_cX g ok (cX8_winnerC (ag xs i 1) hx) mi_X8_winner ll_84 dL_law_747 rfl (by decide) (fun w hw => by
    rw [List.mem_singleton.mp hw]
    exact ag_in xs i 1) e1 (Nat.le_of_ble_eq_true rfl) rfl ?_
  refine lg_a2 g dL_law_750 ?_
  refine lg_ar g hL hi 1 (by decide) (kn := 1) (by decide) dL_law_751 dL_law_752 dL_law_753 dL_law_754 dL_law_755 ?_
  refine lg_cM g ok (cX9_winnerC (ag xs i 1) hm) mi_X9_winner ll_87 dL_law_756 rfl (by decide) (fun w hw => by
    rw [List.mem_singleton.mp hw]
    exact ag_in xs i 1) e2 (Nat.le_of_ble_eq_true rfl) rfl ?_
  exact lg_eq g dL_law_759 (by decide) (nx hx1 hm1 r1)
theorem lg_k18 {D : va_G} {a : Nat → ClassId} {u v : Nat → Nat} {b L : Nat} {xs : Nat → Int32} {H0 : Heap} {G : lg_G} {i : Nat} {hx hm : am_M} (g : lg_Gd D a b L xs H0 G) (ok : lg_ok D a u v H0) (hL : L ≤ 3072) (hi : i + 6 ≤ L) (r : Rel hx hm) (nx : ∀ hx1 hm1, Rel hx1 hm1 → lg_J D a u v H0 G 1347 (lg_lv b u v i) [] hx1 hm1) : lg_J D a u v H0 G 764 (lg_lv b u v i) [] hx hm := by
  obtain ⟨val, hx1, hm1, e1, e2, r1⟩ := e_met r (ag xs i 1) (ag xs i 2) (ag xs i 3) (ag_in xs i 3)
  refine lg_a1 g dL_law_764 ?_
  refine lg_ar g hL hi 1 (by decide) (kn := 1) (by decide) dL_law_765 dL_law_766 dL_law_767 dL_law_768 dL_law_769 ?_
  refine lg_ar g hL hi 2 (by decide) (kn := 2) (by decide) dL_law_770 dL_law_771 dL_law_772 dL_law_773 dL_law_774 ?_
  refine lg_ar g hL hi 3 (by decide) (kn := 3) (by decide) dL_law_775 dL_law_776 dL_law_777 dL_law_778 dL_law_779 ?_
  refine lg_cX g ok (cX8_metC (ag xs i 1) (ag xs i 2) (ag xs i 3) hx) mi_X8_met ll_88 dL_law_780 rfl (by decide) (fun w hw => by
    simp only [List.mem_cons, List.not_mem_nil, or_false] at hw
    rcases hw with rfl | rfl | rfl
    · exact ag_in xs i 1
    · exact ag_in xs i 2
    · exact ag_in xs i 3) e1 (Nat.le_of_ble_eq_true rfl) rfl ?_
  refine lg_a2 g dL_law_783 ?_
  refine lg_ar g hL hi 1 (by decide) (kn := 1) (by decide) dL_law_784 dL_law_785 dL_law_786 dL_law_787 dL_law_788 ?_
  refine lg_ar g hL hi 2 (by decide) (kn := 2) (by decide) dL_law_789 dL_law_790 dL_law_791 dL_law_792 dL_law_793 ?_
  refine lg_ar g hL hi 3 (by decide) (kn := 3) (by decide) dL_law_794 dL_law_795 dL_law_796 dL_law_797 dL_law_798 ?_
  refine lg_cM g ok (cX9_metC (ag xs i 1) (ag xs i 2) (ag xs i 3) hm) mi_X9_met ll_91 dL_law_799 rfl (by decide) (fun w hw => by
    simp only [List.mem_cons, List.not_mem_nil, or_false] at hw
    rcases hw with rfl | rfl | rfl
    · exact ag_in xs i 1
    · exact ag_in xs i 2
    · exact ag_in xs i 3) e2 (Nat.le_of_ble_eq_true rfl) rfl ?_
  exact lg_eq g dL_law_802 (by decide) (nx hx1 hm1 r1)
theorem lg_k19 {D : va_G} {a : Nat → ClassId} {u v : Nat → Nat} {b L : Nat} {xs : Nat → Int32} {H0 : Heap} {G : lg_G} {i : Nat} {hx hm : am_M} (g : lg_Gd D a b L xs H0 G) (ok : lg_ok D a u v H0) (hL : L ≤ 3072) (hi : i + 6 ≤ L) (r : Rel hx hm) (nx : ∀ hx1 hm1, Rel hx1 hm1 → lg_J D a u v H0 G 1347 (lg_lv b u v i) [] hx1 hm1) : lg_J D a u v H0 G 807 (lg_lv b u v i) [] hx hm := by
  obtain ⟨val, hx1, hm1, e1, e2, r1⟩ := e_meeting r (ag xs i 1) (ag xs i 2) (ag xs i 3) 
  refine lg_a1 g dL_law_807 ?_
  refine lg_ar g hL hi 1 (by decide) (kn := 1) (by decide) dL_law_808 dL_law_809 dL_law_810 dL_law_811 dL_law_812 ?_
  refine lg_ar g hL hi 2 (by decide) (kn := 2) (by decide) dL_law_813 dL_law_814 dL_law_815 dL_law_816 dL_law_817 ?_
  refine lg_ar g hL hi 3 (by decide) (kn := 3) (by decide) dL_law_818 dL_law_819 dL_law_820 dL_law_821 dL_law_822 ?_
  refine lg_cX g ok (cX8_meetingC (ag xs i 1) (ag xs i 2) (ag xs i 3) hx) mi_X8_meeting ll_92 dL_law_823 rfl (by decide) (fun w hw => by
    simp only [List.mem_cons, List.not_mem_nil, or_false] at hw
    rcases hw with rfl | rfl | rfl
    · exact ag_in xs i 1
    · exact ag_in xs i 2
    · exact ag_in xs i 3) e1 (Nat.le_of_ble_eq_true rfl) rfl ?_
  refine lg_a2 g dL_law_826 ?_
  refine lg_ar g hL hi 1 (by decide) (kn := 1) (by decide) dL_law_827 dL_law_828 dL_law_829 dL_law_830 dL_law_831 ?_
  refine lg_ar g hL hi 2 (by decide) (kn := 2) (by decide) dL_law_832 dL_law_833 dL_law_834 dL_law_835 dL_law_836 ?_
  refine lg_ar g hL hi 3 (by decide) (kn := 3) (by decide) dL_law_837 dL_law_838 dL_law_839 dL_law_840 dL_law_841 ?_
  refine lg_cM g ok (cX9_meetingC (ag xs i 1) (ag xs i 2) (ag xs i 3) hm) mi_X9_meeting ll_95 dL_law_842 rfl (by decide) (fun w hw => by
    simp only [List.mem_cons, List.not_mem_nil, or_false] at hw
    rcases hw with rfl | rfl | rfl
    · exact ag_in xs i 1
    · exact ag_in xs i 2
    · exact ag_in xs i 3) e2 (Nat.le_of_ble_eq_true rfl) rfl ?_
  exact lg_eq g dL_law_845 (by decide) (nx hx1 hm1 r1)
theorem lg_k20 {D : va_G} {a : Nat → ClassId} {u v : Nat → Nat} {b L : Nat} {xs : Nat → Int32} {H0 : Heap} {G : lg_G} {i : Nat} {hx hm : am_M} (g : lg_Gd D a b L xs H0 G) (ok : lg_ok D a u v H0) (hL : L ≤ 3072) (hi : i + 6 ≤ L) (r : Rel hx hm) (nx : ∀ hx1 hm1, Rel hx1 hm1 → lg_J D a u v H0 G 1347 (lg_lv b u v i) [] hx1 hm1) : lg_J D a u v H0 G 850 (lg_lv b u v i) [] hx hm := by
  obtain ⟨val, hx1, hm1, e1, e2, r1⟩ := e_court r (ag xs i 1) (bzi (ag xs i 2)) (bzi (ag xs i 3)) (ag xs i 4) (ag xs i 5) (bzi_01 (ag xs i 2)) (bzi_01 (ag xs i 3))
  refine lg_a1 g dL_law_850 ?_
  refine lg_ar g hL hi 1 (by decide) (kn := 1) (by decide) dL_law_851 dL_law_852 dL_law_853 dL_law_854 dL_law_855 ?_
  refine lg_ar g hL hi 2 (by decide) (kn := 2) (by decide) dL_law_856 dL_law_857 dL_law_858 dL_law_859 dL_law_860 ?_
  refine lg_bz g (ag_in xs i 2) dL_law_861 dL_law_864 dL_law_865 dL_law_868 ?_
  refine lg_ar g hL hi 3 (by decide) (kn := 3) (by decide) dL_law_869 dL_law_870 dL_law_871 dL_law_872 dL_law_873 ?_
  refine lg_bz g (ag_in xs i 3) dL_law_874 dL_law_877 dL_law_878 dL_law_881 ?_
  refine lg_ar g hL hi 4 (by decide) (kn := 4) (by decide) dL_law_882 dL_law_883 dL_law_884 dL_law_885 dL_law_886 ?_
  refine lg_ar g hL hi 5 (by decide) (kn := 5) (by decide) dL_law_887 dL_law_888 dL_law_889 dL_law_890 dL_law_891 ?_
  refine lg_cX g ok (cX8_courtC (ag xs i 1) (bzi (ag xs i 2)) (bzi (ag xs i 3)) (ag xs i 4) (ag xs i 5) hx) mi_X8_court ll_96 dL_law_892 rfl (by decide) (fun w hw => by
    simp only [List.mem_cons, List.not_mem_nil, or_false] at hw
    rcases hw with rfl | rfl | rfl | rfl | rfl
    · exact ag_in xs i 1
    · exact bzi_in (ag xs i 2)
    · exact bzi_in (ag xs i 3)
    · exact ag_in xs i 4
    · exact ag_in xs i 5) e1 (Nat.le_of_ble_eq_true rfl) rfl ?_
  refine lg_a2 g dL_law_895 ?_
  refine lg_ar g hL hi 1 (by decide) (kn := 1) (by decide) dL_law_896 dL_law_897 dL_law_898 dL_law_899 dL_law_900 ?_
  refine lg_ar g hL hi 2 (by decide) (kn := 2) (by decide) dL_law_901 dL_law_902 dL_law_903 dL_law_904 dL_law_905 ?_
  refine lg_bz g (ag_in xs i 2) dL_law_906 dL_law_909 dL_law_910 dL_law_913 ?_
  refine lg_ar g hL hi 3 (by decide) (kn := 3) (by decide) dL_law_914 dL_law_915 dL_law_916 dL_law_917 dL_law_918 ?_
  refine lg_bz g (ag_in xs i 3) dL_law_919 dL_law_922 dL_law_923 dL_law_926 ?_
  refine lg_ar g hL hi 4 (by decide) (kn := 4) (by decide) dL_law_927 dL_law_928 dL_law_929 dL_law_930 dL_law_931 ?_
  refine lg_ar g hL hi 5 (by decide) (kn := 5) (by decide) dL_law_932 dL_law_933 dL_law_934 dL_law_935 dL_law_936 ?_
  refine lg_cM g ok (cX9_courtC (ag xs i 1) (bzi (ag xs i 2)) (bzi (ag xs i 3)) (ag xs i 4) (ag xs i 5) hm) mi_X9_court ll_100 dL_law_937 rfl (by decide) (fun w hw => by
    simp only [List.mem_cons, List.not_mem_nil, or_false] at hw
    rcases hw with rfl | rfl | rfl | rfl | rfl
    · exact ag_in xs i 1
    · exact bzi_in (ag xs i 2)
    · exact bzi_in (ag xs i 3)
    · exact ag_in xs i 4
    · exact ag_in xs i 5) e2 (Nat.le_of_ble_eq_true rfl) rfl ?_
  exact lg_eq g dL_law_940 (by decide) (nx hx1 hm1 r1)
theorem lg_k21 {D : va_G} {a : Nat → ClassId} {u v : Nat → Nat} {b L : Nat} {xs : Nat → Int32} {H0 : Heap} {G : lg_G} {i : Nat} {hx hm : am_M} (g : lg_Gd D a b L xs H0 G) (ok : lg_ok D a u v H0) (hL : L ≤ 3072) (hi : i + 6 ≤ L) (r : Rel hx hm) (nx : ∀ hx1 hm1, Rel hx1 hm1 → lg_J D a u v H0 G 1347 (lg_lv b u v i) [] hx1 hm1) : lg_J D a u v H0 G 945 (lg_lv b u v i) [] hx hm := by
  obtain ⟨val, hx1, hm1, e1, e2, r1⟩ := e_rule r (ag xs i 1) (ag xs i 2) 
  refine lg_a1 g dL_law_945 ?_
  refine lg_ar g hL hi 1 (by decide) (kn := 1) (by decide) dL_law_946 dL_law_947 dL_law_948 dL_law_949 dL_law_950 ?_
  refine lg_ar g hL hi 2 (by decide) (kn := 2) (by decide) dL_law_951 dL_law_952 dL_law_953 dL_law_954 dL_law_955 ?_
  refine lg_cX g ok (cX8_ruleC (ag xs i 1) (ag xs i 2) hx) mi_X8_rule ll_101 dL_law_956 rfl (by decide) (fun w hw => by
    simp only [List.mem_cons, List.not_mem_nil, or_false] at hw
    rcases hw with rfl | rfl
    · exact ag_in xs i 1
    · exact ag_in xs i 2) e1 (Nat.le_of_ble_eq_true rfl) rfl ?_
  refine lg_a2 g dL_law_959 ?_
  refine lg_ar g hL hi 1 (by decide) (kn := 1) (by decide) dL_law_960 dL_law_961 dL_law_962 dL_law_963 dL_law_964 ?_
  refine lg_ar g hL hi 2 (by decide) (kn := 2) (by decide) dL_law_965 dL_law_966 dL_law_967 dL_law_968 dL_law_969 ?_
  refine lg_cM g ok (cX9_ruleC (ag xs i 1) (ag xs i 2) hm) mi_X9_rule ll_104 dL_law_970 rfl (by decide) (fun w hw => by
    simp only [List.mem_cons, List.not_mem_nil, or_false] at hw
    rcases hw with rfl | rfl
    · exact ag_in xs i 1
    · exact ag_in xs i 2) e2 (Nat.le_of_ble_eq_true rfl) rfl ?_
  exact lg_eq g dL_law_973 (by decide) (nx hx1 hm1 r1)
theorem lg_k22 {D : va_G} {a : Nat → ClassId} {u v : Nat → Nat} {b L : Nat} {xs : Nat → Int32} {H0 : Heap} {G : lg_G} {i : Nat} {hx hm : am_M} (g : lg_Gd D a b L xs H0 G) (ok : lg_ok D a u v H0) (hL : L ≤ 3072) (hi : i + 6 ≤ L) (r : Rel hx hm) (nx : ∀ hx1 hm1, Rel hx1 hm1 → lg_J D a u v H0 G 1347 (lg_lv b u v i) [] hx1 hm1) : lg_J D a u v H0 G 978 (lg_lv b u v i) [] hx hm := by
  obtain ⟨val, hx1, hm1, e1, e2, r1⟩ := e_rain r (bzi (ag xs i 1)) (bzi_01 (ag xs i 1))
  refine lg_a1 g dL_law_978 ?_
  refine lg_ar g hL hi 1 (by decide) (kn := 1) (by decide) dL_law_979 dL_law_980 dL_law_981 dL_law_982 dL_law_983 ?_
  refine lg_bz g (ag_in xs i 1) dL_law_984 dL_law_987 dL_law_988 dL_law_991 ?_
  refine lg_cX g ok (cX8_rainC (bzi (ag xs i 1)) hx) mi_X8_rain ll_105 dL_law_992 rfl (by decide) (fun w hw => by
    rw [List.mem_singleton.mp hw]
    exact bzi_in (ag xs i 1)) e1 (Nat.le_of_ble_eq_true rfl) rfl ?_
  refine lg_a2 g dL_law_995 ?_
  refine lg_ar g hL hi 1 (by decide) (kn := 1) (by decide) dL_law_996 dL_law_997 dL_law_998 dL_law_999 dL_law_1000 ?_
  refine lg_bz g (ag_in xs i 1) dL_law_1001 dL_law_1004 dL_law_1005 dL_law_1008 ?_
  refine lg_cM g ok (cX9_rainC (bzi (ag xs i 1)) hm) mi_X9_rain ll_109 dL_law_1009 rfl (by decide) (fun w hw => by
    rw [List.mem_singleton.mp hw]
    exact bzi_in (ag xs i 1)) e2 (Nat.le_of_ble_eq_true rfl) rfl ?_
  exact lg_eq g dL_law_1012 (by decide) (nx hx1 hm1 r1)
theorem lg_k23 {D : va_G} {a : Nat → ClassId} {u v : Nat → Nat} {b L : Nat} {xs : Nat → Int32} {H0 : Heap} {G : lg_G} {i : Nat} {hx hm : am_M} (g : lg_Gd D a b L xs H0 G) (ok : lg_ok D a u v H0) (hL : L ≤ 3072) (hi : i + 6 ≤ L) (r : Rel hx hm) (nx : ∀ hx1 hm1, Rel hx1 hm1 → lg_J D a u v H0 G 1347 (lg_lv b u v i) [] hx1 hm1) : lg_J D a u v H0 G 1017 (lg_lv b u v i) [] hx hm := by
  obtain ⟨val, hx1, hm1, e1, e2, r1⟩ := e_slot r (ag xs i 1) (ag xs i 2) 
  refine lg_a1 g dL_law_1017 ?_
  refine lg_ar g hL hi 1 (by decide) (kn := 1) (by decide) dL_law_1018 dL_law_1019 dL_law_1020 dL_law_1021 dL_law_1022 ?_
  refine lg_ar g hL hi 2 (by decide) (kn := 2) (by decide) dL_law_1023 dL_law_1024 dL_law_1025 dL_law_1026 dL_law_1027 ?_
  refine lg_cX g ok (cX8_slotC (ag xs i 1) (ag xs i 2) hx) mi_X8_slot ll_110 dL_law_1028 rfl (by decide) (fun w hw => by
    simp only [List.mem_cons, List.not_mem_nil, or_false] at hw
    rcases hw with rfl | rfl
    · exact ag_in xs i 1
    · exact ag_in xs i 2) e1 (Nat.le_of_ble_eq_true rfl) rfl ?_
  refine lg_a2 g dL_law_1031 ?_
  refine lg_ar g hL hi 1 (by decide) (kn := 1) (by decide) dL_law_1032 dL_law_1033 dL_law_1034 dL_law_1035 dL_law_1036 ?_
  refine lg_ar g hL hi 2 (by decide) (kn := 2) (by decide) dL_law_1037 dL_law_1038 dL_law_1039 dL_law_1040 dL_law_1041 ?_
  refine lg_cM g ok (cX9_slotC (ag xs i 1) (ag xs i 2) hm) mi_X9_slot ll_113 dL_law_1042 rfl (by decide) (fun w hw => by
    simp only [List.mem_cons, List.not_mem_nil, or_false] at hw
    rcases hw with rfl | rfl
    · exact ag_in xs i 1
    · exact ag_in xs i 2) e2 (Nat.le_of_ble_eq_true rfl) rfl ?_
  exact lg_eq g dL_law_1045 (by decide) (nx hx1 hm1 r1)
theorem lg_k24 {D : va_G} {a : Nat → ClassId} {u v : Nat → Nat} {b L : Nat} {xs : Nat → Int32} {H0 : Heap} {G : lg_G} {i : Nat} {hx hm : am_M} (g : lg_Gd D a b L xs H0 G) (ok : lg_ok D a u v H0) (hL : L ≤ 3072) (hi : i + 6 ≤ L) (r : Rel hx hm) (nx : ∀ hx1 hm1, Rel hx1 hm1 → lg_J D a u v H0 G 1347 (lg_lv b u v i) [] hx1 hm1) : lg_J D a u v H0 G 1050 (lg_lv b u v i) [] hx hm := by
  obtain ⟨val, hx1, hm1, e1, e2, r1⟩ := e_gap r (ag xs i 1) (ag xs i 2) 
  refine lg_a1 g dL_law_1050 ?_
  refine lg_ar g hL hi 1 (by decide) (kn := 1) (by decide) dL_law_1051 dL_law_1052 dL_law_1053 dL_law_1054 dL_law_1055 ?_
  refine lg_ar g hL hi 2 (by decide) (kn := 2) (by decide) dL_law_1056 dL_law_1057 dL_law_1058 dL_law_1059 dL_law_1060 ?_
  refine lg_cX g ok (cX8_gapC (ag xs i 1) (ag xs i 2) hx) mi_X8_gap ll_114 dL_law_1061 rfl (by decide) (fun w hw => by
    simp only [List.mem_cons, List.not_mem_nil, or_false] at hw
    rcases hw with rfl | rfl
    · exact ag_in xs i 1
    · exact ag_in xs i 2) e1 (Nat.le_of_ble_eq_true rfl) rfl ?_
  refine lg_a2 g dL_law_1064 ?_
  refine lg_ar g hL hi 1 (by decide) (kn := 1) (by decide) dL_law_1065 dL_law_1066 dL_law_1067 dL_law_1068 dL_law_1069 ?_
  refine lg_ar g hL hi 2 (by decide) (kn := 2) (by decide) dL_law_1070 dL_law_1071 dL_law_1072 dL_law_1073 dL_law_1074 ?_
  refine lg_cM g ok (cX9_gapC (ag xs i 1) (ag xs i 2) hm) mi_X9_gap ll_117 dL_law_1075 rfl (by decide) (fun w hw => by
    simp only [List.mem_cons, List.not_mem_nil, or_false] at hw
    rcases hw with rfl | rfl
    · exact ag_in xs i 1
    · exact ag_in xs i 2) e2 (Nat.le_of_ble_eq_true rfl) rfl ?_
  exact lg_eq g dL_law_1078 (by decide) (nx hx1 hm1 r1)
theorem lg_k25 {D : va_G} {a : Nat → ClassId} {u v : Nat → Nat} {b L : Nat} {xs : Nat → Int32} {H0 : Heap} {G : lg_G} {i : Nat} {hx hm : am_M} (g : lg_Gd D a b L xs H0 G) (ok : lg_ok D a u v H0) (hL : L ≤ 3072) (hi : i + 6 ≤ L) (r : Rel hx hm) (nx : ∀ hx1 hm1, Rel hx1 hm1 → lg_J D a u v H0 G 1347 (lg_lv b u v i) [] hx1 hm1) : lg_J D a u v H0 G 1083 (lg_lv b u v i) [] hx hm := by
  obtain ⟨val, hx1, hm1, e1, e2, r1⟩ := e_drop r (ag xs i 1) (ag xs i 2) 
  refine lg_a1 g dL_law_1083 ?_
  refine lg_ar g hL hi 1 (by decide) (kn := 1) (by decide) dL_law_1084 dL_law_1085 dL_law_1086 dL_law_1087 dL_law_1088 ?_
  refine lg_ar g hL hi 2 (by decide) (kn := 2) (by decide) dL_law_1089 dL_law_1090 dL_law_1091 dL_law_1092 dL_law_1093 ?_
  refine lg_cX g ok (cX8_dropC (ag xs i 1) (ag xs i 2) hx) mi_X8_drop ll_118 dL_law_1094 rfl (by decide) (fun w hw => by
    simp only [List.mem_cons, List.not_mem_nil, or_false] at hw
    rcases hw with rfl | rfl
    · exact ag_in xs i 1
    · exact ag_in xs i 2) e1 (Nat.le_of_ble_eq_true rfl) rfl ?_
  refine lg_a2 g dL_law_1097 ?_
  refine lg_ar g hL hi 1 (by decide) (kn := 1) (by decide) dL_law_1098 dL_law_1099 dL_law_1100 dL_law_1101 dL_law_1102 ?_
  refine lg_ar g hL hi 2 (by decide) (kn := 2) (by decide) dL_law_1103 dL_law_1104 dL_law_1105 dL_law_1106 dL_law_1107 ?_
  refine lg_cM g ok (cX9_dropC (ag xs i 1) (ag xs i 2) hm) mi_X9_drop ll_121 dL_law_1108 rfl (by decide) (fun w hw => by
    simp only [List.mem_cons, List.not_mem_nil, or_false] at hw
    rcases hw with rfl | rfl
    · exact ag_in xs i 1
    · exact ag_in xs i 2) e2 (Nat.le_of_ble_eq_true rfl) rfl ?_
  exact lg_eq g dL_law_1111 (by decide) (nx hx1 hm1 r1)
theorem lg_k26 {D : va_G} {a : Nat → ClassId} {u v : Nat → Nat} {b L : Nat} {xs : Nat → Int32} {H0 : Heap} {G : lg_G} {i : Nat} {hx hm : am_M} (g : lg_Gd D a b L xs H0 G) (ok : lg_ok D a u v H0) (hL : L ≤ 3072) (hi : i + 6 ≤ L) (r : Rel hx hm) (nx : ∀ hx1 hm1, Rel hx1 hm1 → lg_J D a u v H0 G 1347 (lg_lv b u v i) [] hx1 hm1) : lg_J D a u v H0 G 1116 (lg_lv b u v i) [] hx hm := by
  obtain ⟨val, hx1, hm1, e1, e2, r1⟩ := e_held r (ag xs i 1) (ag xs i 2) 
  refine lg_a1 g dL_law_1116 ?_
  refine lg_ar g hL hi 1 (by decide) (kn := 1) (by decide) dL_law_1117 dL_law_1118 dL_law_1119 dL_law_1120 dL_law_1121 ?_
  refine lg_ar g hL hi 2 (by decide) (kn := 2) (by decide) dL_law_1122 dL_law_1123 dL_law_1124 dL_law_1125 dL_law_1126 ?_
  refine lg_cX g ok (cX8_heldC (ag xs i 1) (ag xs i 2) hx) mi_X8_held ll_122 dL_law_1127 rfl (by decide) (fun w hw => by
    simp only [List.mem_cons, List.not_mem_nil, or_false] at hw
    rcases hw with rfl | rfl
    · exact ag_in xs i 1
    · exact ag_in xs i 2) e1 (Nat.le_of_ble_eq_true rfl) rfl ?_
  refine lg_a2 g dL_law_1130 ?_
  refine lg_ar g hL hi 1 (by decide) (kn := 1) (by decide) dL_law_1131 dL_law_1132 dL_law_1133 dL_law_1134 dL_law_1135 ?_
  refine lg_ar g hL hi 2 (by decide) (kn := 2) (by decide) dL_law_1136 dL_law_1137 dL_law_1138 dL_law_1139 dL_law_1140 ?_
  refine lg_cM g ok (cX9_heldC (ag xs i 1) (ag xs i 2) hm) mi_X9_held ll_125 dL_law_1141 rfl (by decide) (fun w hw => by
    simp only [List.mem_cons, List.not_mem_nil, or_false] at hw
    rcases hw with rfl | rfl
    · exact ag_in xs i 1
    · exact ag_in xs i 2) e2 (Nat.le_of_ble_eq_true rfl) rfl ?_
  exact lg_eq g dL_law_1144 (by decide) (nx hx1 hm1 r1)
theorem lg_k27 {D : va_G} {a : Nat → ClassId} {u v : Nat → Nat} {b L : Nat} {xs : Nat → Int32} {H0 : Heap} {G : lg_G} {i : Nat} {hx hm : am_M} (g : lg_Gd D a b L xs H0 G) (ok : lg_ok D a u v H0) (hL : L ≤ 3072) (hi : i + 6 ≤ L) (r : Rel hx hm) (nx : ∀ hx1 hm1, Rel hx1 hm1 → lg_J D a u v H0 G 1347 (lg_lv b u v i) [] hx1 hm1) : lg_J D a u v H0 G 1149 (lg_lv b u v i) [] hx hm := by
  obtain ⟨val, hx1, hm1, e1, e2, r1⟩ := e_time r (ag xs i 1) (ag xs i 2) (ag xs i 3) 
  refine lg_a1 g dL_law_1149 ?_
  refine lg_ar g hL hi 1 (by decide) (kn := 1) (by decide) dL_law_1150 dL_law_1151 dL_law_1152 dL_law_1153 dL_law_1154 ?_
  refine lg_ar g hL hi 2 (by decide) (kn := 2) (by decide) dL_law_1155 dL_law_1156 dL_law_1157 dL_law_1158 dL_law_1159 ?_
  refine lg_ar g hL hi 3 (by decide) (kn := 3) (by decide) dL_law_1160 dL_law_1161 dL_law_1162 dL_law_1163 dL_law_1164 ?_
  refine lg_cX g ok (cX8_timeC (ag xs i 1) (ag xs i 2) (ag xs i 3) hx) mi_X8_time ll_126 dL_law_1165 rfl (by decide) (fun w hw => by
    simp only [List.mem_cons, List.not_mem_nil, or_false] at hw
    rcases hw with rfl | rfl | rfl
    · exact ag_in xs i 1
    · exact ag_in xs i 2
    · exact ag_in xs i 3) e1 (Nat.le_of_ble_eq_true rfl) rfl ?_
  refine lg_a2 g dL_law_1168 ?_
  refine lg_ar g hL hi 1 (by decide) (kn := 1) (by decide) dL_law_1169 dL_law_1170 dL_law_1171 dL_law_1172 dL_law_1173 ?_
  refine lg_ar g hL hi 2 (by decide) (kn := 2) (by decide) dL_law_1174 dL_law_1175 dL_law_1176 dL_law_1177 dL_law_1178 ?_
  refine lg_ar g hL hi 3 (by decide) (kn := 3) (by decide) dL_law_1179 dL_law_1180 dL_law_1181 dL_law_1182 dL_law_1183 ?_
  refine lg_cM g ok (cX9_timeC (ag xs i 1) (ag xs i 2) (ag xs i 3) hm) mi_X9_time ll_129 dL_law_1184 rfl (by decide) (fun w hw => by
    simp only [List.mem_cons, List.not_mem_nil, or_false] at hw
    rcases hw with rfl | rfl | rfl
    · exact ag_in xs i 1
    · exact ag_in xs i 2
    · exact ag_in xs i 3) e2 (Nat.le_of_ble_eq_true rfl) rfl ?_
  exact lg_eq g dL_law_1187 (by decide) (nx hx1 hm1 r1)
theorem lg_k28 {D : va_G} {a : Nat → ClassId} {u v : Nat → Nat} {b L : Nat} {xs : Nat → Int32} {H0 : Heap} {G : lg_G} {i : Nat} {hx hm : am_M} (g : lg_Gd D a b L xs H0 G) (ok : lg_ok D a u v H0) (hL : L ≤ 3072) (hi : i + 6 ≤ L) (r : Rel hx hm) (nx : ∀ hx1 hm1, Rel hx1 hm1 → lg_J D a u v H0 G 1347 (lg_lv b u v i) [] hx1 hm1) : lg_J D a u v H0 G 1192 (lg_lv b u v i) [] hx hm := by
  obtain ⟨val, hx1, hm1, e1, e2, r1⟩ := e_over r (ag xs i 1) (ag xs i 2) (ag_in xs i 1)
  refine lg_a1 g dL_law_1192 ?_
  refine lg_ar g hL hi 1 (by decide) (kn := 1) (by decide) dL_law_1193 dL_law_1194 dL_law_1195 dL_law_1196 dL_law_1197 ?_
  refine lg_ar g hL hi 2 (by decide) (kn := 2) (by decide) dL_law_1198 dL_law_1199 dL_law_1200 dL_law_1201 dL_law_1202 ?_
  refine lg_cX g ok (cX8_overC (ag xs i 1) (ag xs i 2) hx) mi_X8_over ll_130 dL_law_1203 rfl (by decide) (fun w hw => by
    simp only [List.mem_cons, List.not_mem_nil, or_false] at hw
    rcases hw with rfl | rfl
    · exact ag_in xs i 1
    · exact ag_in xs i 2) e1 (Nat.le_of_ble_eq_true rfl) rfl ?_
  refine lg_a2 g dL_law_1206 ?_
  refine lg_ar g hL hi 1 (by decide) (kn := 1) (by decide) dL_law_1207 dL_law_1208 dL_law_1209 dL_law_1210 dL_law_1211 ?_
  refine lg_ar g hL hi 2 (by decide) (kn := 2) (by decide) dL_law_1212 dL_law_1213 dL_law_1214 dL_law_1215 dL_law_1216 ?_
  refine lg_cM g ok (cX9_overC (ag xs i 1) (ag xs i 2) hm) mi_X9_over ll_133 dL_law_1217 rfl (by decide) (fun w hw => by
    simp only [List.mem_cons, List.not_mem_nil, or_false] at hw
    rcases hw with rfl | rfl
    · exact ag_in xs i 1
    · exact ag_in xs i 2) e2 (Nat.le_of_ble_eq_true rfl) rfl ?_
  exact lg_eq g dL_law_1220 (by decide) (nx hx1 hm1 r1)
theorem lg_k29 {D : va_G} {a : Nat → ClassId} {u v : Nat → Nat} {b L : Nat} {xs : Nat → Int32} {H0 : Heap} {G : lg_G} {i : Nat} {hx hm : am_M} (g : lg_Gd D a b L xs H0 G) (ok : lg_ok D a u v H0) (hL : L ≤ 3072) (hi : i + 6 ≤ L) (r : Rel hx hm) (nx : ∀ hx1 hm1, Rel hx1 hm1 → lg_J D a u v H0 G 1347 (lg_lv b u v i) [] hx1 hm1) : lg_J D a u v H0 G 1225 (lg_lv b u v i) [] hx hm := by
  obtain ⟨val, hx1, hm1, e1, e2, r1⟩ := e_end r (ag xs i 1) (ag_in xs i 1)
  refine lg_a1 g dL_law_1225 ?_
  refine lg_ar g hL hi 1 (by decide) (kn := 1) (by decide) dL_law_1226 dL_law_1227 dL_law_1228 dL_law_1229 dL_law_1230 ?_
  refine lg_cX g ok (cX8_endC (ag xs i 1) hx) mi_X8_end ll_134 dL_law_1231 rfl (by decide) (fun w hw => by
    rw [List.mem_singleton.mp hw]
    exact ag_in xs i 1) e1 (Nat.le_of_ble_eq_true rfl) rfl ?_
  refine lg_a2 g dL_law_1234 ?_
  refine lg_ar g hL hi 1 (by decide) (kn := 1) (by decide) dL_law_1235 dL_law_1236 dL_law_1237 dL_law_1238 dL_law_1239 ?_
  refine lg_cM g ok (cX9_endC (ag xs i 1) hm) mi_X9_end ll_137 dL_law_1240 rfl (by decide) (fun w hw => by
    rw [List.mem_singleton.mp hw]
    exact ag_in xs i 1) e2 (Nat.le_of_ble_eq_true rfl) rfl ?_
  exact lg_eq g dL_law_1243 (by decide) (nx hx1 hm1 r1)
theorem lg_k30 {D : va_G} {a : Nat → ClassId} {u v : Nat → Nat} {b L : Nat} {xs : Nat → Int32} {H0 : Heap} {G : lg_G} {i : Nat} {hx hm : am_M} (g : lg_Gd D a b L xs H0 G) (ok : lg_ok D a u v H0) (hL : L ≤ 3072) (hi : i + 6 ≤ L) (r : Rel hx hm) (nx : ∀ hx1 hm1, Rel hx1 hm1 → lg_J D a u v H0 G 1347 (lg_lv b u v i) [] hx1 hm1) : lg_J D a u v H0 G 1248 (lg_lv b u v i) [] hx hm := by
  obtain ⟨val, hx1, hm1, e1, e2, r1⟩ := e_why r (ag xs i 1) (ag xs i 2) (ag_in xs i 1) (ag_in xs i 2)
  refine lg_a1 g dL_law_1248 ?_
  refine lg_ar g hL hi 1 (by decide) (kn := 1) (by decide) dL_law_1249 dL_law_1250 dL_law_1251 dL_law_1252 dL_law_1253 ?_
  refine lg_ar g hL hi 2 (by decide) (kn := 2) (by decide) dL_law_1254 dL_law_1255 dL_law_1256 dL_law_1257 dL_law_1258 ?_
  refine lg_cX g ok (cX8_whyC (ag xs i 1) (ag xs i 2) hx) mi_X8_why ll_138 dL_law_1259 rfl (by decide) (fun w hw => by
    simp only [List.mem_cons, List.not_mem_nil, or_false] at hw
    rcases hw with rfl | rfl
    · exact ag_in xs i 1
    · exact ag_in xs i 2) e1 (Nat.le_of_ble_eq_true rfl) rfl ?_
  refine lg_a2 g dL_law_1262 ?_
  refine lg_ar g hL hi 1 (by decide) (kn := 1) (by decide) dL_law_1263 dL_law_1264 dL_law_1265 dL_law_1266 dL_law_1267 ?_
  refine lg_ar g hL hi 2 (by decide) (kn := 2) (by decide) dL_law_1268 dL_law_1269 dL_law_1270 dL_law_1271 dL_law_1272 ?_
  refine lg_cM g ok (cX9_whyC (ag xs i 1) (ag xs i 2) hm) mi_X9_why ll_141 dL_law_1273 rfl (by decide) (fun w hw => by
    simp only [List.mem_cons, List.not_mem_nil, or_false] at hw
    rcases hw with rfl | rfl
    · exact ag_in xs i 1
    · exact ag_in xs i 2) e2 (Nat.le_of_ble_eq_true rfl) rfl ?_
  exact lg_eq g dL_law_1276 (by decide) (nx hx1 hm1 r1)
theorem lg_k31 {D : va_G} {a : Nat → ClassId} {u v : Nat → Nat} {b L : Nat} {xs : Nat → Int32} {H0 : Heap} {G : lg_G} {i : Nat} {hx hm : am_M} (g : lg_Gd D a b L xs H0 G) (ok : lg_ok D a u v H0) (hL : L ≤ 3072) (hi : i + 6 ≤ L) (r : Rel hx hm) (nx : ∀ hx1 hm1, Rel hx1 hm1 → lg_J D a u v H0 G 1347 (lg_lv b u v i) [] hx1 hm1) : lg_J D a u v H0 G 1281 (lg_lv b u v i) [] hx hm := by
  obtain ⟨val, hx1, hm1, e1, e2, r1⟩ := e_worth r (ag xs i 1) (ag xs i 2) 
  refine lg_a1 g dL_law_1281 ?_
  refine lg_ar g hL hi 1 (by decide) (kn := 1) (by decide) dL_law_1282 dL_law_1283 dL_law_1284 dL_law_1285 dL_law_1286 ?_
  refine lg_ar g hL hi 2 (by decide) (kn := 2) (by decide) dL_law_1287 dL_law_1288 dL_law_1289 dL_law_1290 dL_law_1291 ?_
  refine lg_cX g ok (cX8_worthC (ag xs i 1) (ag xs i 2) hx) mi_X8_worth ll_142 dL_law_1292 rfl (by decide) (fun w hw => by
    simp only [List.mem_cons, List.not_mem_nil, or_false] at hw
    rcases hw with rfl | rfl
    · exact ag_in xs i 1
    · exact ag_in xs i 2) e1 (Nat.le_of_ble_eq_true rfl) rfl ?_
  refine lg_a2 g dL_law_1295 ?_
  refine lg_ar g hL hi 1 (by decide) (kn := 1) (by decide) dL_law_1296 dL_law_1297 dL_law_1298 dL_law_1299 dL_law_1300 ?_
  refine lg_ar g hL hi 2 (by decide) (kn := 2) (by decide) dL_law_1301 dL_law_1302 dL_law_1303 dL_law_1304 dL_law_1305 ?_
  refine lg_cM g ok (cX9_worthC (ag xs i 1) (ag xs i 2) hm) mi_X9_worth ll_145 dL_law_1306 rfl (by decide) (fun w hw => by
    simp only [List.mem_cons, List.not_mem_nil, or_false] at hw
    rcases hw with rfl | rfl
    · exact ag_in xs i 1
    · exact ag_in xs i 2) e2 (Nat.le_of_ble_eq_true rfl) rfl ?_
  exact lg_eq g dL_law_1309 (by decide) (nx hx1 hm1 r1)
theorem lg_k32 {D : va_G} {a : Nat → ClassId} {u v : Nat → Nat} {b L : Nat} {xs : Nat → Int32} {H0 : Heap} {G : lg_G} {i : Nat} {hx hm : am_M} (g : lg_Gd D a b L xs H0 G) (ok : lg_ok D a u v H0) (hL : L ≤ 3072) (hi : i + 6 ≤ L) (r : Rel hx hm) (nx : ∀ hx1 hm1, Rel hx1 hm1 → lg_J D a u v H0 G 1347 (lg_lv b u v i) [] hx1 hm1) : lg_J D a u v H0 G 1314 (lg_lv b u v i) [] hx hm := by
  obtain ⟨val, hx1, hm1, e1, e2, r1⟩ := e_fitted r (ag xs i 1) (ag xs i 2) (ag_in xs i 2)
  refine lg_a1 g dL_law_1314 ?_
  refine lg_ar g hL hi 1 (by decide) (kn := 1) (by decide) dL_law_1315 dL_law_1316 dL_law_1317 dL_law_1318 dL_law_1319 ?_
  refine lg_ar g hL hi 2 (by decide) (kn := 2) (by decide) dL_law_1320 dL_law_1321 dL_law_1322 dL_law_1323 dL_law_1324 ?_
  refine lg_cX g ok (cX8_fittedC (ag xs i 1) (ag xs i 2) hx) mi_X8_fitted ll_146 dL_law_1325 rfl (by decide) (fun w hw => by
    simp only [List.mem_cons, List.not_mem_nil, or_false] at hw
    rcases hw with rfl | rfl
    · exact ag_in xs i 1
    · exact ag_in xs i 2) e1 (Nat.le_of_ble_eq_true rfl) rfl ?_
  refine lg_a2 g dL_law_1328 ?_
  refine lg_ar g hL hi 1 (by decide) (kn := 1) (by decide) dL_law_1329 dL_law_1330 dL_law_1331 dL_law_1332 dL_law_1333 ?_
  refine lg_ar g hL hi 2 (by decide) (kn := 2) (by decide) dL_law_1334 dL_law_1335 dL_law_1336 dL_law_1337 dL_law_1338 ?_
  refine lg_cM g ok (cX9_fittedC (ag xs i 1) (ag xs i 2) hm) mi_X9_fitted ll_149 dL_law_1339 rfl (by decide) (fun w hw => by
    simp only [List.mem_cons, List.not_mem_nil, or_false] at hw
    rcases hw with rfl | rfl
    · exact ag_in xs i 1
    · exact ag_in xs i 2) e2 (Nat.le_of_ble_eq_true rfl) rfl ?_
  exact lg_eq g dL_law_1342 (by decide) (nx hx1 hm1 r1)
theorem lg_cs {D : va_G} {a : Nat → ClassId} {u v : Nat → Nat} {b L : Nat} {xs : Nat → Int32} {H0 : Heap} {G : lg_G} {i : Nat} {hx hm : am_M} (g : lg_Gd D a b L xs H0 G) (ok : lg_ok D a u v H0) (hL : L ≤ 3072) (hi : i + 6 ≤ L) (r : Rel hx hm) (nx : ∀ hx1 hm1, Rel hx1 hm1 → lg_J D a u v H0 G 1347 (lg_lv b u v i) [] hx1 hm1) : ∀ j, j < 33 → lg_J D a u v H0 G (lg_tg.getD j 0) (lg_lv b u v i) [] hx hm := by
  intro j hj
  match j, hj with
  | 0, _ => exact lg_k0 g ok hL hi r nx
  | 1, _ => exact lg_k1 g ok hL hi r nx
  | 2, _ => exact lg_k2 g ok hL hi r nx
  | 3, _ => exact lg_k3 g ok hL hi r nx
  | 4, _ => exact lg_k4 g ok hL hi r nx
  | 5, _ => exact lg_k5 g ok hL hi r nx
  | 6, _ => exact lg_k6 g ok hL hi r nx
  | 7, _ => exact lg_k7 g ok hL hi r nx
  | 8, _ => exact lg_k8 g ok hL hi r nx
  | 9, _ => exact lg_k9 g ok hL hi r nx
  | 10, _ => exact lg_k10 g ok hL hi r nx
  | 11, _ => exact lg_k11 g ok hL hi r nx
  | 12, _ => exact lg_k12 g ok hL hi r nx
  | 13, _ => exact lg_k13 g ok hL hi r nx
  | 14, _ => exact lg_k14 g ok hL hi r nx
  | 15, _ => exact lg_k15 g ok hL hi r nx
  | 16, _ => exact lg_k16 g ok hL hi r nx
  | 17, _ => exact lg_k17 g ok hL hi r nx
  | 18, _ => exact lg_k18 g ok hL hi r nx
  | 19, _ => exact lg_k19 g ok hL hi r nx
  | 20, _ => exact lg_k20 g ok hL hi r nx
  | 21, _ => exact lg_k21 g ok hL hi r nx
  | 22, _ => exact lg_k22 g ok hL hi r nx
  | 23, _ => exact lg_k23 g ok hL hi r nx
  | 24, _ => exact lg_k24 g ok hL hi r nx
  | 25, _ => exact lg_k25 g ok hL hi r nx
  | 26, _ => exact lg_k26 g ok hL hi r nx
  | 27, _ => exact lg_k27 g ok hL hi r nx
  | 28, _ => exact lg_k28 g ok hL hi r nx
  | 29, _ => exact lg_k29 g ok hL hi r nx
  | 30, _ => exact lg_k30 g ok hL hi r nx
  | 31, _ => exact lg_k31 g ok hL hi r nx
  | 32, _ => exact lg_k32 g ok hL hi r nx
  | j + 33, h => exact absurd h (by omega)
/-- THE LAW'S LOOP -/
theorem lg_loop {D : va_G} {a : Nat → ClassId} {u v : Nat → Nat} {b L : Nat} {xs : Nat → Int32} {H0 : Heap} {G : lg_G} (g : lg_Gd D a b L xs H0 G) (ok : lg_ok D a u v H0) (hL : L ≤ 3072) : ∀ (n i : Nat) (hx hm : am_M), L ≤ i + n → i ≤ L → Rel hx hm → lg_J D a u v H0 G 18 (lg_lv b u v i) [] hx hm := by
  intro n
  induction n with
  | zero =>
    intro i hx hm h1 h2 r
    exact lg_hd g hL (by omega) (fun _ => lg_ex g) (fun h => absurd h (by omega))
  | succ n ih =>
    intro i hx hm h1 h2 r
    refine lg_hd g hL (by omega) (fun _ => lg_ex g) (fun h6 => ?_)
    have nx : ∀ hx1 hm1, Rel hx1 hm1 → lg_J D a u v H0 G 1347 (lg_lv b u v i) [] hx1 hm1 := fun hx1 hm1 r1 => lg_nx g (ih (i + 6) hx1 hm1 (by omega) h6 r1)
    exact lg_sw g (nx hx hm r) (lg_cs g ok hL h6 r nx)
