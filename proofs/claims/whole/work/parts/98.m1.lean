/-! the cases of the law (printed by wip/whole/lawgen.py) -/
theorem kz_0 : Cond.methodLink RL 13 yX6_stuff ∈ wsL_law := inR7 (List.mem_of_getElem? (i := 16) rfl)
theorem kz_1 : Cond.methodLink RL 17 yX7_stuff ∈ wsL_law := inR8 (List.mem_of_getElem? (i := 6) rfl)
theorem kz_2 : Cond.methodLink RL 18 yX6_put ∈ wsL_law := inR9 (List.mem_of_getElem? (i := 5) rfl)
theorem kz_3 : Cond.methodLink RL 22 yX7_put ∈ wsL_law := inR9 (List.mem_of_getElem? (i := 15) rfl)
theorem kz_4 : Cond.methodLink RL 23 yX6_habit ∈ wsL_law := inR10 (List.mem_of_getElem? (i := 1) rfl)
theorem kz_5 : Cond.methodLink RL 26 yX7_habit ∈ wsL_law := inR10 (List.mem_of_getElem? (i := 9) rfl)
theorem kz_6 : Cond.methodLink RL 27 yX6_trace ∈ wsL_law := inR10 (List.mem_of_getElem? (i := 14) rfl)
theorem kz_7 : Cond.methodLink RL 31 yX7_trace ∈ wsL_law := inR11 (List.mem_of_getElem? (i := 9) rfl)
theorem kz_8 : Cond.methodLink RL 32 yX6_aside ∈ wsL_law := inR12 (List.mem_of_getElem? (i := 2) rfl)
theorem kz_9 : Cond.methodLink RL 36 yX7_aside ∈ wsL_law := inR12 (List.mem_of_getElem? (i := 10) rfl)
theorem kz_10 : Cond.methodLink RL 37 yX6_copy ∈ wsL_law := inR12 (List.mem_of_getElem? (i := 22) rfl)
theorem kz_11 : Cond.methodLink RL 40 yX7_copy ∈ wsL_law := inR13 (List.mem_of_getElem? (i := 6) rfl)
theorem kz_12 : Cond.constantLong RL 41 (4294967295) ∈ wsL_law := inR1 (List.mem_of_getElem? (i := 6) rfl)
theorem kz_13 : Cond.methodLink RL 43 yX6_type ∈ wsL_law := inR13 (List.mem_of_getElem? (i := 10) rfl)
theorem kz_14 : Cond.methodLink RL 47 yX7_type ∈ wsL_law := inR13 (List.mem_of_getElem? (i := 19) rfl)
theorem kz_15 : Cond.methodLink RL 48 yX6_clear ∈ wsL_law := inR14 (List.mem_of_getElem? (i := 2) rfl)
theorem kz_16 : Cond.methodLink RL 52 yX7_clear ∈ wsL_law := inR14 (List.mem_of_getElem? (i := 10) rfl)
theorem kz_17 : Cond.methodLink RL 53 yX6_statue ∈ wsL_law := inR14 (List.mem_of_getElem? (i := 14) rfl)
theorem kz_18 : Cond.methodLink RL 56 yX7_statue ∈ wsL_law := inR19 (List.mem_of_getElem? (i := 4) rfl)
theorem kz_19 : Cond.methodLink RL 57 yX6_left ∈ wsL_law := inR21 (List.mem_of_getElem? (i := 8) rfl)
theorem kz_20 : Cond.methodLink RL 60 yX7_left ∈ wsL_law := inR23 (List.mem_of_getElem? (i := 3) rfl)
theorem kz_21 : Cond.methodLink RL 61 yX6_shines ∈ wsL_law := inR24 (List.mem_of_getElem? (i := 10) rfl)
theorem kz_22 : Cond.methodLink RL 64 yX7_shines ∈ wsL_law := inR25 (List.mem_of_getElem? (i := 0) rfl)
theorem kz_23 : Cond.methodLink RL 65 yX6_fits ∈ wsL_law := inR25 (List.mem_of_getElem? (i := 8) rfl)
theorem kz_24 : Cond.methodLink RL 68 yX7_fits ∈ wsL_law := inR27 (List.mem_of_getElem? (i := 14) rfl)
theorem kz_25 : Cond.methodLink RL 69 yX6_odds ∈ wsL_law := inR28 (List.mem_of_getElem? (i := 6) rfl)
theorem kz_26 : Cond.methodLink RL 72 yX7_odds ∈ wsL_law := inR31 (List.mem_of_getElem? (i := 23) rfl)
theorem kz_27 : Cond.methodLink RL 73 yX6_above ∈ wsL_law := inR35 (List.mem_of_getElem? (i := 0) rfl)
theorem kz_28 : Cond.methodLink RL 77 yX7_above ∈ wsL_law := inR35 (List.mem_of_getElem? (i := 5) rfl)
theorem kz_29 : Cond.methodLink RL 78 yX6_likeliest ∈ wsL_law := inR35 (List.mem_of_getElem? (i := 9) rfl)
theorem kz_30 : Cond.methodLink RL 81 yX7_likeliest ∈ wsL_law := inR36 (List.mem_of_getElem? (i := 12) rfl)
theorem kz_31 : Cond.methodLink RL 82 yX6_stood ∈ wsL_law := inR36 (List.mem_of_getElem? (i := 17) rfl)
theorem kz_32 : Cond.methodLink RL 85 yX7_stood ∈ wsL_law := inR37 (List.mem_of_getElem? (i := 17) rfl)
theorem kz_33 : Cond.methodLink RL 86 yX6_span ∈ wsL_law := inR37 (List.mem_of_getElem? (i := 21) rfl)
theorem kz_34 : Cond.methodLink RL 89 yX7_span ∈ wsL_law := inR38 (List.mem_of_getElem? (i := 7) rfl)
theorem kz_35 : Cond.methodLink RL 90 yX6_later ∈ wsL_law := inR38 (List.mem_of_getElem? (i := 15) rfl)
theorem kz_36 : Cond.methodLink RL 93 yX7_later ∈ wsL_law := inR39 (List.mem_of_getElem? (i := 4) rfl)
theorem kz_37 : Cond.methodLink RL 94 yX6_next ∈ wsL_law := inR39 (List.mem_of_getElem? (i := 16) rfl)
theorem kz_38 : Cond.methodLink RL 97 yX7_next ∈ wsL_law := inR40 (List.mem_of_getElem? (i := 21) rfl)
theorem kz_39 : Cond.methodLink RL 98 yX6_rests ∈ wsL_law := inR41 (List.mem_of_getElem? (i := 1) rfl)
theorem kz_40 : Cond.methodLink RL 101 yX7_rests ∈ wsL_law := inR41 (List.mem_of_getElem? (i := 14) rfl)
theorem kz_41 : Cond.methodLink RL 102 yX6_resting ∈ wsL_law := inR42 (List.mem_of_getElem? (i := 1) rfl)
theorem kz_42 : Cond.methodLink RL 105 yX7_resting ∈ wsL_law := inR42 (List.mem_of_getElem? (i := 5) rfl)
theorem kz_43 : Cond.methodLink RL 106 yX6_bright ∈ wsL_law := inR42 (List.mem_of_getElem? (i := 9) rfl)
theorem kz_44 : Cond.methodLink RL 109 yX7_bright ∈ wsL_law := inR43 (List.mem_of_getElem? (i := 2) rfl)
theorem kz_45 : Cond.methodLink RL 110 yX6_sign ∈ wsL_law := inR43 (List.mem_of_getElem? (i := 6) rfl)
theorem kz_46 : Cond.methodLink RL 113 yX7_sign ∈ wsL_law := inR43 (List.mem_of_getElem? (i := 13) rfl)
theorem kz_47 : Cond.methodLink RL 114 yX6_limb ∈ wsL_law := inR43 (List.mem_of_getElem? (i := 17) rfl)
theorem kz_48 : Cond.methodLink RL 117 yX7_limb ∈ wsL_law := inR44 (List.mem_of_getElem? (i := 1) rfl)
theorem kz_49 : Cond.methodLink RL 118 yX6_image ∈ wsL_law := inR44 (List.mem_of_getElem? (i := 5) rfl)
theorem kz_50 : Cond.methodLink RL 121 yX7_image ∈ wsL_law := inR44 (List.mem_of_getElem? (i := 9) rfl)
theorem kz_51 : Cond.methodLink RL 122 yX6_from ∈ wsL_law := inR44 (List.mem_of_getElem? (i := 13) rfl)
theorem kz_52 : Cond.methodLink RL 125 yX7_from ∈ wsL_law := inR44 (List.mem_of_getElem? (i := 17) rfl)
theorem kz_53 : Cond.methodLink RL 126 yX6_status ∈ wsL_law := inR44 (List.mem_of_getElem? (i := 21) rfl)
theorem kz_54 : Cond.methodLink RL 129 yX7_status ∈ wsL_law := inR45 (List.mem_of_getElem? (i := 1) rfl)
theorem kz_55 : Cond.methodLink RL 130 yX6_count ∈ wsL_law := inR45 (List.mem_of_getElem? (i := 5) rfl)
theorem kz_56 : Cond.methodLink RL 133 yX7_count ∈ wsL_law := inR45 (List.mem_of_getElem? (i := 16) rfl)
theorem kz_57 : Cond.methodLink RL 134 yX6_digest ∈ wsL_law := inR46 (List.mem_of_getElem? (i := 0) rfl)
theorem kz_58 : Cond.methodLink RL 138 yX7_digest ∈ wsL_law := inR46 (List.mem_of_getElem? (i := 16) rfl)
theorem lg_same (x : Int64) : lg_cmp x x = 0 := by
  simp [lg_cmp]
theorem lc_0 {X : lX} (C : CL X) {i : Nat} {S : zS} {M : mM} (hi : i + 5 ≤ l_n X) (hb : l_n X ≤ 320) (I : LI X S M) (next : ∀ S' M', LI X S' M' → VL X 1048 (LK X i) [] M') : VL X 164 (LK X i) [] M := by
  refine VL_aload C 1 dL_law_164 rfl ?_
  refine VL_arg C (i := i) (j := 1) (lv0 := 3) (by omega) hb rfl rfl (by decide) dL_law_165 dL_law_166 dL_law_167 dL_law_168 dL_law_169 ?_
  refine VL_arg C (i := i) (j := 2) (lv0 := 3) (by omega) hb rfl rfl (by decide) dL_law_170 dL_law_171 dL_law_172 dL_law_173 dL_law_174 ?_
  refine VL_arg C (i := i) (j := 3) (lv0 := 3) (by omega) hb rfl rfl (by decide) dL_law_175 dL_law_176 dL_law_177 dL_law_178 dL_law_179 ?_
  refine VL_arg C (i := i) (j := 4) (lv0 := 3) (by omega) hb rfl rfl (by decide) dL_law_180 dL_law_181 dL_law_182 dL_law_183 dL_law_184 ?_
  refine VL_call C (k := 0) (As := [.int (l_x X (i + 1)), .int (l_x X (i + 2)), .int (l_x X (i + 3)), .int (l_x X (i + 4))]) (c_X6_stuff (lw_is6 X) (LI_C I (bo_stuff (l_x X (i + 1)) (l_x X (i + 2)) (l_x X (i + 3)) (l_x X (i + 4))))) Y_X6_stuff Z_X6_stuff rfl (o6 (lw_is6 X)) (by decide) kz_0 rfl rfl (Nat.le_of_ble_eq_true rfl) dL_law_185 (fun v6 N6 q6 => ?_)
  obtain ⟨r6, rfl, e6, hc, hm⟩ := q6
  refine VL_aload C 2 dL_law_188 rfl ?_
  refine VL_arg C (i := i) (j := 1) (lv0 := 3) (by omega) hb rfl rfl (by decide) dL_law_189 dL_law_190 dL_law_191 dL_law_192 dL_law_193 ?_
  refine VL_arg C (i := i) (j := 2) (lv0 := 3) (by omega) hb rfl rfl (by decide) dL_law_194 dL_law_195 dL_law_196 dL_law_197 dL_law_198 ?_
  refine VL_arg C (i := i) (j := 3) (lv0 := 3) (by omega) hb rfl rfl (by decide) dL_law_199 dL_law_200 dL_law_201 dL_law_202 dL_law_203 ?_
  refine VL_arg C (i := i) (j := 4) (lv0 := 3) (by omega) hb rfl rfl (by decide) dL_law_204 dL_law_205 dL_law_206 dL_law_207 dL_law_208 ?_
  refine VL_call C (k := 145) (As := [.int (l_x X (i + 1)), .int (l_x X (i + 2)), .int (l_x X (i + 3)), .int (l_x X (i + 4))]) (c_X7_stuff (lw_is7 X) (LI_M I.1 hc hm (bo_stuff (l_x X (i + 1)) (l_x X (i + 2)) (l_x X (i + 3)) (l_x X (i + 4))))) Y_X7_stuff Z_X7_stuff rfl (o7 (lw_is7 X)) (by decide) kz_1 rfl rfl (Nat.le_of_ble_eq_true rfl) dL_law_209 (fun v7 N7 q7 => ?_)
  obtain ⟨r7, rfl, e7, I2⟩ := q7
  exact VL_icmp_eq C dL_law_212 (by decide) (fun _ => next _ _ I2) (fun e => absurd (e6.trans e7.symm) e)
theorem lc_1 {X : lX} (C : CL X) {i : Nat} {S : zS} {M : mM} (hi : i + 5 ≤ l_n X) (hb : l_n X ≤ 320) (I : LI X S M) (next : ∀ S' M', LI X S' M' → VL X 1048 (LK X i) [] M') : VL X 217 (LK X i) [] M := by
  refine VL_aload C 1 dL_law_217 rfl ?_
  refine VL_arg C (i := i) (j := 1) (lv0 := 3) (by omega) hb rfl rfl (by decide) dL_law_218 dL_law_219 dL_law_220 dL_law_221 dL_law_222 ?_
  refine VL_arg C (i := i) (j := 2) (lv0 := 3) (by omega) hb rfl rfl (by decide) dL_law_223 dL_law_224 dL_law_225 dL_law_226 dL_law_227 ?_
  refine VL_call C (k := 0) (As := [.int (l_x X (i + 1)), .int (l_x X (i + 2))]) (c_X6_put (lw_is6 X) (LI_C I (bo_put (l_x X (i + 1)) (l_x X (i + 2))))) Y_X6_put Z_X6_put rfl (o6 (lw_is6 X)) (by decide) kz_2 rfl rfl (Nat.le_of_ble_eq_true rfl) dL_law_228 (fun v6 N6 q6 => ?_)
  obtain ⟨r6, rfl, e6, hc, hm⟩ := q6
  refine VL_aload C 2 dL_law_231 rfl ?_
  refine VL_arg C (i := i) (j := 1) (lv0 := 3) (by omega) hb rfl rfl (by decide) dL_law_232 dL_law_233 dL_law_234 dL_law_235 dL_law_236 ?_
  refine VL_arg C (i := i) (j := 2) (lv0 := 3) (by omega) hb rfl rfl (by decide) dL_law_237 dL_law_238 dL_law_239 dL_law_240 dL_law_241 ?_
  refine VL_call C (k := 145) (As := [.int (l_x X (i + 1)), .int (l_x X (i + 2))]) (c_X7_put (lw_is7 X) (LI_M I.1 hc hm (bo_put (l_x X (i + 1)) (l_x X (i + 2))))) Y_X7_put Z_X7_put rfl (o7 (lw_is7 X)) (by decide) kz_3 rfl rfl (Nat.le_of_ble_eq_true rfl) dL_law_242 (fun v7 N7 q7 => ?_)
  obtain ⟨r7, rfl, e7, I2⟩ := q7
  exact VL_icmp_eq C dL_law_245 (by decide) (fun _ => next _ _ I2) (fun e => absurd (e6.trans e7.symm) e)
theorem lc_2 {X : lX} (C : CL X) {i : Nat} {S : zS} {M : mM} (hi : i + 5 ≤ l_n X) (hb : l_n X ≤ 320) (I : LI X S M) (next : ∀ S' M', LI X S' M' → VL X 1048 (LK X i) [] M') : VL X 250 (LK X i) [] M := by
  refine VL_aload C 1 dL_law_250 rfl ?_
  refine VL_arg C (i := i) (j := 1) (lv0 := 3) (by omega) hb rfl rfl (by decide) dL_law_251 dL_law_252 dL_law_253 dL_law_254 dL_law_255 ?_
  refine VL_arg C (i := i) (j := 2) (lv0 := 3) (by omega) hb rfl rfl (by decide) dL_law_256 dL_law_257 dL_law_258 dL_law_259 dL_law_260 ?_
  refine VL_call C (k := 0) (As := [.int (l_x X (i + 1)), .int (l_x X (i + 2))]) (c_X6_habit (lw_is6 X) (LI_C I (bo_habit (l_x X (i + 1)) (l_x X (i + 2))))) Y_X6_habit Z_X6_habit rfl (o6 (lw_is6 X)) (by decide) kz_4 rfl rfl (Nat.le_of_ble_eq_true rfl) dL_law_261 (fun v6 N6 q6 => ?_)
  obtain ⟨r6, rfl, e6, hc, hm⟩ := q6
  refine VL_aload C 2 dL_law_264 rfl ?_
  refine VL_arg C (i := i) (j := 1) (lv0 := 3) (by omega) hb rfl rfl (by decide) dL_law_265 dL_law_266 dL_law_267 dL_law_268 dL_law_269 ?_
  refine VL_arg C (i := i) (j := 2) (lv0 := 3) (by omega) hb rfl rfl (by decide) dL_law_270 dL_law_271 dL_law_272 dL_law_273 dL_law_274 ?_
  refine VL_call C (k := 145) (As := [.int (l_x X (i + 1)), .int (l_x X (i + 2))]) (c_X7_habit (lw_is7 X) (LI_M I.1 hc hm (bo_habit (l_x X (i + 1)) (l_x X (i + 2))))) Y_X7_habit Z_X7_habit rfl (o7 (lw_is7 X)) (by decide) kz_5 rfl rfl (Nat.le_of_ble_eq_true rfl) dL_law_275 (fun v7 N7 q7 => ?_)
  obtain ⟨r7, rfl, e7, I2⟩ := q7
  exact VL_icmp_eq C dL_law_278 (by decide) (fun _ => next _ _ I2) (fun e => absurd (e6.trans e7.symm) e)
theorem lc_3 {X : lX} (C : CL X) {i : Nat} {S : zS} {M : mM} (hi : i + 5 ≤ l_n X) (hb : l_n X ≤ 320) (I : LI X S M) (next : ∀ S' M', LI X S' M' → VL X 1048 (LK X i) [] M') : VL X 283 (LK X i) [] M := by
  refine VL_aload C 1 dL_law_283 rfl ?_
  refine VL_arg C (i := i) (j := 1) (lv0 := 3) (by omega) hb rfl rfl (by decide) dL_law_284 dL_law_285 dL_law_286 dL_law_287 dL_law_288 ?_
  refine VL_arg C (i := i) (j := 2) (lv0 := 3) (by omega) hb rfl rfl (by decide) dL_law_289 dL_law_290 dL_law_291 dL_law_292 dL_law_293 ?_
  refine VL_arg C (i := i) (j := 3) (lv0 := 3) (by omega) hb rfl rfl (by decide) dL_law_294 dL_law_295 dL_law_296 dL_law_297 dL_law_298 ?_
  refine VL_call C (k := 0) (As := [.int (l_x X (i + 1)), .int (l_x X (i + 2)), .int (l_x X (i + 3))]) (c_X6_trace (lw_is6 X) (LI_C I (bo_trace (l_x X (i + 1)) (l_x X (i + 2)) (l_x X (i + 3))))) Y_X6_trace Z_X6_trace rfl (o6 (lw_is6 X)) (by decide) kz_6 rfl rfl (Nat.le_of_ble_eq_true rfl) dL_law_299 (fun v6 N6 q6 => ?_)
  obtain ⟨r6, rfl, e6, hc, hm⟩ := q6
  refine VL_aload C 2 dL_law_302 rfl ?_
  refine VL_arg C (i := i) (j := 1) (lv0 := 3) (by omega) hb rfl rfl (by decide) dL_law_303 dL_law_304 dL_law_305 dL_law_306 dL_law_307 ?_
  refine VL_arg C (i := i) (j := 2) (lv0 := 3) (by omega) hb rfl rfl (by decide) dL_law_308 dL_law_309 dL_law_310 dL_law_311 dL_law_312 ?_
  refine VL_arg C (i := i) (j := 3) (lv0 := 3) (by omega) hb rfl rfl (by decide) dL_law_313 dL_law_314 dL_law_315 dL_law_316 dL_law_317 ?_
  refine VL_call C (k := 145) (As := [.int (l_x X (i + 1)), .int (l_x X (i + 2)), .int (l_x X (i + 3))]) (c_X7_trace (lw_is7 X) (LI_M I.1 hc hm (bo_trace (l_x X (i + 1)) (l_x X (i + 2)) (l_x X (i + 3))))) Y_X7_trace Z_X7_trace rfl (o7 (lw_is7 X)) (by decide) kz_7 rfl rfl (Nat.le_of_ble_eq_true rfl) dL_law_318 (fun v7 N7 q7 => ?_)
  obtain ⟨r7, rfl, e7, I2⟩ := q7
  exact VL_icmp_eq C dL_law_321 (by decide) (fun _ => next _ _ I2) (fun e => absurd (e6.trans e7.symm) e)
theorem lc_4 {X : lX} (C : CL X) {i : Nat} {S : zS} {M : mM} (hi : i + 5 ≤ l_n X) (hb : l_n X ≤ 320) (I : LI X S M) (next : ∀ S' M', LI X S' M' → VL X 1048 (LK X i) [] M') : VL X 326 (LK X i) [] M := by
  rcases Classical.em (l_x X (i + 2) = 0) with z | z
  · refine VL_aload C 1 dL_law_326 rfl ?_
    refine VL_arg C (i := i) (j := 1) (lv0 := 3) (by omega) hb rfl rfl (by decide) dL_law_327 dL_law_328 dL_law_329 dL_law_330 dL_law_331 ?_
    refine VL_arg C (i := i) (j := 2) (lv0 := 3) (by omega) hb rfl rfl (by decide) dL_law_332 dL_law_333 dL_law_334 dL_law_335 dL_law_336 ?_
    refine VL_if_eq C (tgt := 344) dL_law_337 (by decide) (fun _ => ?_) (fun e => absurd z e)
    refine VL_iconst C (nI 0) dL_law_344 (by decide) ?_
    refine VL_call C (k := 0) (As := [.int (l_x X (i + 1)), .int (nI 0)]) (c_X6_aside (lw_is6 X) (LI_C I (bo_aside (p := 0) (l_x X (i + 1)) (by decide)))) Y_X6_aside Z_X6_aside rfl (o6 (lw_is6 X)) (by decide) kz_8 rfl rfl (Nat.le_of_ble_eq_true rfl) dL_law_345 (fun v6 N6 q6 => ?_)
    obtain ⟨r6, rfl, e6, hc, hm⟩ := q6
    refine VL_aload C 2 dL_law_348 rfl ?_
    refine VL_arg C (i := i) (j := 1) (lv0 := 3) (by omega) hb rfl rfl (by decide) dL_law_349 dL_law_350 dL_law_351 dL_law_352 dL_law_353 ?_
    refine VL_arg C (i := i) (j := 2) (lv0 := 3) (by omega) hb rfl rfl (by decide) dL_law_354 dL_law_355 dL_law_356 dL_law_357 dL_law_358 ?_
    refine VL_if_eq C (tgt := 366) dL_law_359 (by decide) (fun _ => ?_) (fun e => absurd z e)
    refine VL_iconst C (nI 0) dL_law_366 (by decide) ?_
    refine VL_call C (k := 145) (As := [.int (l_x X (i + 1)), .int (nI 0)]) (c_X7_aside (lw_is7 X) (LI_M I.1 hc hm (bo_aside (p := 0) (l_x X (i + 1)) (by decide)))) Y_X7_aside Z_X7_aside rfl (o7 (lw_is7 X)) (by decide) kz_9 rfl rfl (Nat.le_of_ble_eq_true rfl) dL_law_367 (fun v7 N7 q7 => ?_)
    obtain ⟨r7, rfl, e7, I2⟩ := q7
    exact VL_icmp_eq C dL_law_370 (by decide) (fun _ => next _ _ I2) (fun e => absurd (e6.trans e7.symm) e)
  · refine VL_aload C 1 dL_law_326 rfl ?_
    refine VL_arg C (i := i) (j := 1) (lv0 := 3) (by omega) hb rfl rfl (by decide) dL_law_327 dL_law_328 dL_law_329 dL_law_330 dL_law_331 ?_
    refine VL_arg C (i := i) (j := 2) (lv0 := 3) (by omega) hb rfl rfl (by decide) dL_law_332 dL_law_333 dL_law_334 dL_law_335 dL_law_336 ?_
    refine VL_if_eq C (tgt := 344) dL_law_337 (by decide) (fun e => absurd e z) (fun _ => ?_)
    refine VL_iconst C (nI 1) dL_law_340 (by decide) ?_
    refine VL_goto C (tgt := 345) dL_law_341 (by decide) ?_
    refine VL_call C (k := 0) (As := [.int (l_x X (i + 1)), .int (nI 1)]) (c_X6_aside (lw_is6 X) (LI_C I (bo_aside (p := 1) (l_x X (i + 1)) (by decide)))) Y_X6_aside Z_X6_aside rfl (o6 (lw_is6 X)) (by decide) kz_8 rfl rfl (Nat.le_of_ble_eq_true rfl) dL_law_345 (fun v6 N6 q6 => ?_)
    obtain ⟨r6, rfl, e6, hc, hm⟩ := q6
    refine VL_aload C 2 dL_law_348 rfl ?_
    refine VL_arg C (i := i) (j := 1) (lv0 := 3) (by omega) hb rfl rfl (by decide) dL_law_349 dL_law_350 dL_law_351 dL_law_352 dL_law_353 ?_
    refine VL_arg C (i := i) (j := 2) (lv0 := 3) (by omega) hb rfl rfl (by decide) dL_law_354 dL_law_355 dL_law_356 dL_law_357 dL_law_358 ?_
    refine VL_if_eq C (tgt := 366) dL_law_359 (by decide) (fun e => absurd e z) (fun _ => ?_)
    refine VL_iconst C (nI 1) dL_law_362 (by decide) ?_
    refine VL_goto C (tgt := 367) dL_law_363 (by decide) ?_
    refine VL_call C (k := 145) (As := [.int (l_x X (i + 1)), .int (nI 1)]) (c_X7_aside (lw_is7 X) (LI_M I.1 hc hm (bo_aside (p := 1) (l_x X (i + 1)) (by decide)))) Y_X7_aside Z_X7_aside rfl (o7 (lw_is7 X)) (by decide) kz_9 rfl rfl (Nat.le_of_ble_eq_true rfl) dL_law_367 (fun v7 N7 q7 => ?_)
    obtain ⟨r7, rfl, e7, I2⟩ := q7
    exact VL_icmp_eq C dL_law_370 (by decide) (fun _ => next _ _ I2) (fun e => absurd (e6.trans e7.symm) e)
theorem lc_5 {X : lX} (C : CL X) {i : Nat} {S : zS} {M : mM} (hi : i + 5 ≤ l_n X) (hb : l_n X ≤ 320) (I : LI X S M) (next : ∀ S' M', LI X S' M' → VL X 1048 (LK X i) [] M') : VL X 375 (LK X i) [] M := by
  refine VL_aload C 1 dL_law_375 rfl ?_
  refine VL_arg C (i := i) (j := 1) (lv0 := 3) (by omega) hb rfl rfl (by decide) dL_law_376 dL_law_377 dL_law_378 dL_law_379 dL_law_380 ?_
  refine VL_arg C (i := i) (j := 2) (lv0 := 3) (by omega) hb rfl rfl (by decide) dL_law_381 dL_law_382 dL_law_383 dL_law_384 dL_law_385 ?_
  refine VL_call C (k := 0) (As := [.int (l_x X (i + 1)), .int (l_x X (i + 2))]) (c_X6_copy (lw_is6 X) (LI_C I (bo_copy (l_x X (i + 1)) (l_x X (i + 2))))) Y_X6_copy Z_X6_copy rfl (o6 (lw_is6 X)) (by decide) kz_10 rfl rfl (Nat.le_of_ble_eq_true rfl) dL_law_386 (fun v6 N6 q6 => ?_)
  obtain ⟨r6, rfl, e6, hc, hm⟩ := q6
  refine VL_aload C 2 dL_law_389 rfl ?_
  refine VL_arg C (i := i) (j := 1) (lv0 := 3) (by omega) hb rfl rfl (by decide) dL_law_390 dL_law_391 dL_law_392 dL_law_393 dL_law_394 ?_
  refine VL_arg C (i := i) (j := 2) (lv0 := 3) (by omega) hb rfl rfl (by decide) dL_law_395 dL_law_396 dL_law_397 dL_law_398 dL_law_399 ?_
  refine VL_call C (k := 145) (As := [.int (l_x X (i + 1)), .int (l_x X (i + 2))]) (c_X7_copy (lw_is7 X) (LI_M I.1 hc hm (bo_copy (l_x X (i + 1)) (l_x X (i + 2))))) Y_X7_copy Z_X7_copy rfl (o7 (lw_is7 X)) (by decide) kz_11 rfl rfl (Nat.le_of_ble_eq_true rfl) dL_law_400 (fun v7 N7 q7 => ?_)
  obtain ⟨r7, rfl, e7, I2⟩ := q7
  exact VL_icmp_eq C dL_law_403 (by decide) (fun _ => next _ _ I2) (fun e => absurd (e6.trans e7.symm) e)
theorem lc_6 {X : lX} (C : CL X) {i : Nat} {S : zS} {M : mM} (hi : i + 5 ≤ l_n X) (hb : l_n X ≤ 320) (I : LI X S M) (next : ∀ S' M', LI X S' M' → VL X 1048 (LK X i) [] M') : VL X 408 (LK X i) [] M := by
  refine VL_aload C 1 dL_law_408 rfl ?_
  refine VL_arg C (i := i) (j := 1) (lv0 := 3) (by omega) hb rfl rfl (by decide) dL_law_409 dL_law_410 dL_law_411 dL_law_412 dL_law_413 ?_
  refine VL_i2l C dL_law_414 ?_
  refine VL_bipush C 32 dL_law_415 (by decide) ?_
  refine VL_lshl C dL_law_417 ?_
  refine VL_arg C (i := i) (j := 2) (lv0 := 3) (by omega) hb rfl rfl (by decide) dL_law_418 dL_law_419 dL_law_420 dL_law_421 dL_law_422 ?_
  refine VL_i2l C dL_law_423 ?_
  refine VL_ldc2 C kz_12 dL_law_424 ?_
  refine VL_land C dL_law_427 ?_
  refine VL_lor C dL_law_428 ?_
  refine VL_arg C (i := i) (j := 3) (lv0 := 3) (by omega) hb rfl rfl (by decide) dL_law_429 dL_law_430 dL_law_431 dL_law_432 dL_law_433 ?_
  refine VL_call C (k := 0) (As := [.long ((((l_x X (i + 1)).toInt64) <<< (((32) : Int32).toInt64 &&& 63)) ||| (((l_x X (i + 2)).toInt64) &&& (4294967295))), .int (l_x X (i + 3))]) (c_X6_type (lw_is6 X) (LI_C I (bo_type ((((l_x X (i + 1)).toInt64) <<< (((32) : Int32).toInt64 &&& 63)) ||| (((l_x X (i + 2)).toInt64) &&& (4294967295))) (l_x X (i + 3))))) Y_X6_type Z_X6_type rfl (o6 (lw_is6 X)) (by decide) kz_13 rfl rfl (Nat.le_of_ble_eq_true rfl) dL_law_434 (fun v6 N6 q6 => ?_)
  obtain ⟨r6, rfl, e6, hc, hm⟩ := q6
  refine VL_aload C 2 dL_law_437 rfl ?_
  refine VL_arg C (i := i) (j := 1) (lv0 := 3) (by omega) hb rfl rfl (by decide) dL_law_438 dL_law_439 dL_law_440 dL_law_441 dL_law_442 ?_
  refine VL_i2l C dL_law_443 ?_
  refine VL_bipush C 32 dL_law_444 (by decide) ?_
  refine VL_lshl C dL_law_446 ?_
  refine VL_arg C (i := i) (j := 2) (lv0 := 3) (by omega) hb rfl rfl (by decide) dL_law_447 dL_law_448 dL_law_449 dL_law_450 dL_law_451 ?_
  refine VL_i2l C dL_law_452 ?_
  refine VL_ldc2 C kz_12 dL_law_453 ?_
  refine VL_land C dL_law_456 ?_
  refine VL_lor C dL_law_457 ?_
  refine VL_arg C (i := i) (j := 3) (lv0 := 3) (by omega) hb rfl rfl (by decide) dL_law_458 dL_law_459 dL_law_460 dL_law_461 dL_law_462 ?_
  refine VL_call C (k := 145) (As := [.long ((((l_x X (i + 1)).toInt64) <<< (((32) : Int32).toInt64 &&& 63)) ||| (((l_x X (i + 2)).toInt64) &&& (4294967295))), .int (l_x X (i + 3))]) (c_X7_type (lw_is7 X) (LI_M I.1 hc hm (bo_type ((((l_x X (i + 1)).toInt64) <<< (((32) : Int32).toInt64 &&& 63)) ||| (((l_x X (i + 2)).toInt64) &&& (4294967295))) (l_x X (i + 3))))) Y_X7_type Z_X7_type rfl (o7 (lw_is7 X)) (by decide) kz_14 rfl rfl (Nat.le_of_ble_eq_true rfl) dL_law_463 (fun v7 N7 q7 => ?_)
  obtain ⟨r7, rfl, e7, I2⟩ := q7
  exact VL_icmp_eq C dL_law_466 (by decide) (fun _ => next _ _ I2) (fun e => absurd (e6.trans e7.symm) e)
theorem lc_7 {X : lX} (C : CL X) {i : Nat} {S : zS} {M : mM} (hi : i + 5 ≤ l_n X) (hb : l_n X ≤ 320) (I : LI X S M) (next : ∀ S' M', LI X S' M' → VL X 1048 (LK X i) [] M') : VL X 471 (LK X i) [] M := by
  refine VL_aload C 1 dL_law_471 rfl ?_
  refine VL_call C (k := 0) (As := []) (c_X6_clear (lw_is6 X) (LI_C I bo_clear)) Y_X6_clear Z_X6_clear rfl (o6 (lw_is6 X)) (by decide) kz_15 rfl rfl (Nat.le_of_ble_eq_true rfl) dL_law_472 (fun v6 N6 q6 => ?_)
  obtain ⟨r6, rfl, e6, hc, hm⟩ := q6
  refine VL_aload C 2 dL_law_475 rfl ?_
  refine VL_call C (k := 145) (As := []) (c_X7_clear (lw_is7 X) (LI_M I.1 hc hm bo_clear)) Y_X7_clear Z_X7_clear rfl (o7 (lw_is7 X)) (by decide) kz_16 rfl rfl (Nat.le_of_ble_eq_true rfl) dL_law_476 (fun v7 N7 q7 => ?_)
  obtain ⟨r7, rfl, e7, I2⟩ := q7
  exact VL_icmp_eq C dL_law_479 (by decide) (fun _ => next _ _ I2) (fun e => absurd (e6.trans e7.symm) e)
theorem lc_8 {X : lX} (C : CL X) {i : Nat} {S : zS} {M : mM} (hi : i + 5 ≤ l_n X) (hb : l_n X ≤ 320) (I : LI X S M) (next : ∀ S' M', LI X S' M' → VL X 1048 (LK X i) [] M') : VL X 484 (LK X i) [] M := by
  refine VL_aload C 1 dL_law_484 rfl ?_
  refine VL_call C (k := 0) (As := []) (c_X6_statue (lw_is6 X) (LI_C I bo_statue)) Y_X6_statue Z_X6_statue rfl (o6 (lw_is6 X)) (by decide) kz_17 rfl rfl (Nat.le_of_ble_eq_true rfl) dL_law_485 (fun v6 N6 q6 => ?_)
  obtain ⟨r6, rfl, e6, hc, hm⟩ := q6
  refine VL_aload C 2 dL_law_488 rfl ?_
  refine VL_call C (k := 145) (As := []) (c_X7_statue (lw_is7 X) (LI_M I.1 hc hm bo_statue)) Y_X7_statue Z_X7_statue rfl (o7 (lw_is7 X)) (by decide) kz_18 rfl rfl (Nat.le_of_ble_eq_true rfl) dL_law_489 (fun v7 N7 q7 => ?_)
  obtain ⟨r7, rfl, e7, I2⟩ := q7
  exact VL_icmp_eq C dL_law_492 (by decide) (fun _ => next _ _ I2) (fun e => absurd (e6.trans e7.symm) e)
theorem lc_9 {X : lX} (C : CL X) {i : Nat} {S : zS} {M : mM} (hi : i + 5 ≤ l_n X) (hb : l_n X ≤ 320) (I : LI X S M) (next : ∀ S' M', LI X S' M' → VL X 1048 (LK X i) [] M') : VL X 497 (LK X i) [] M := by
  refine VL_aload C 1 dL_law_497 rfl ?_
  refine VL_arg C (i := i) (j := 1) (lv0 := 3) (by omega) hb rfl rfl (by decide) dL_law_498 dL_law_499 dL_law_500 dL_law_501 dL_law_502 ?_
  refine VL_arg C (i := i) (j := 2) (lv0 := 3) (by omega) hb rfl rfl (by decide) dL_law_503 dL_law_504 dL_law_505 dL_law_506 dL_law_507 ?_
  refine VL_arg C (i := i) (j := 3) (lv0 := 3) (by omega) hb rfl rfl (by decide) dL_law_508 dL_law_509 dL_law_510 dL_law_511 dL_law_512 ?_
  refine VL_call C (k := 0) (As := [.int (l_x X (i + 1)), .int (l_x X (i + 2)), .int (l_x X (i + 3))]) (c_X6_left (lw_is6 X) (LI_C I (bo_left (l_x X (i + 1)) (l_x X (i + 2)) (l_x X (i + 3))))) Y_X6_left Z_X6_left rfl (o6 (lw_is6 X)) (by decide) kz_19 rfl rfl (Nat.le_of_ble_eq_true rfl) dL_law_513 (fun v6 N6 q6 => ?_)
  obtain ⟨r6, rfl, e6, hc, hm⟩ := q6
  refine VL_aload C 2 dL_law_516 rfl ?_
  refine VL_arg C (i := i) (j := 1) (lv0 := 3) (by omega) hb rfl rfl (by decide) dL_law_517 dL_law_518 dL_law_519 dL_law_520 dL_law_521 ?_
  refine VL_arg C (i := i) (j := 2) (lv0 := 3) (by omega) hb rfl rfl (by decide) dL_law_522 dL_law_523 dL_law_524 dL_law_525 dL_law_526 ?_
  refine VL_arg C (i := i) (j := 3) (lv0 := 3) (by omega) hb rfl rfl (by decide) dL_law_527 dL_law_528 dL_law_529 dL_law_530 dL_law_531 ?_
  refine VL_call C (k := 145) (As := [.int (l_x X (i + 1)), .int (l_x X (i + 2)), .int (l_x X (i + 3))]) (c_X7_left (lw_is7 X) (LI_M I.1 hc hm (bo_left (l_x X (i + 1)) (l_x X (i + 2)) (l_x X (i + 3))))) Y_X7_left Z_X7_left rfl (o7 (lw_is7 X)) (by decide) kz_20 rfl rfl (Nat.le_of_ble_eq_true rfl) dL_law_532 (fun v7 N7 q7 => ?_)
  obtain ⟨r7, rfl, e7, I2⟩ := q7
  exact VL_icmp_eq C dL_law_535 (by decide) (fun _ => next _ _ I2) (fun e => absurd (e6.trans e7.symm) e)
theorem lc_10 {X : lX} (C : CL X) {i : Nat} {S : zS} {M : mM} (hi : i + 5 ≤ l_n X) (hb : l_n X ≤ 320) (I : LI X S M) (next : ∀ S' M', LI X S' M' → VL X 1048 (LK X i) [] M') : VL X 540 (LK X i) [] M := by
  refine VL_aload C 1 dL_law_540 rfl ?_
  refine VL_arg C (i := i) (j := 1) (lv0 := 3) (by omega) hb rfl rfl (by decide) dL_law_541 dL_law_542 dL_law_543 dL_law_544 dL_law_545 ?_
  refine VL_arg C (i := i) (j := 2) (lv0 := 3) (by omega) hb rfl rfl (by decide) dL_law_546 dL_law_547 dL_law_548 dL_law_549 dL_law_550 ?_
  refine VL_arg C (i := i) (j := 3) (lv0 := 3) (by omega) hb rfl rfl (by decide) dL_law_551 dL_law_552 dL_law_553 dL_law_554 dL_law_555 ?_
  refine VL_call C (k := 0) (As := [.int (l_x X (i + 1)), .int (l_x X (i + 2)), .int (l_x X (i + 3))]) (c_X6_shines (lw_is6 X) (LI_C I (bo_shines (l_x X (i + 1)) (l_x X (i + 2)) (l_x X (i + 3))))) Y_X6_shines Z_X6_shines rfl (o6 (lw_is6 X)) (by decide) kz_21 rfl rfl (Nat.le_of_ble_eq_true rfl) dL_law_556 (fun v6 N6 q6 => ?_)
  obtain ⟨r6, rfl, e6, hc, hm⟩ := q6
  refine VL_aload C 2 dL_law_559 rfl ?_
  refine VL_arg C (i := i) (j := 1) (lv0 := 3) (by omega) hb rfl rfl (by decide) dL_law_560 dL_law_561 dL_law_562 dL_law_563 dL_law_564 ?_
  refine VL_arg C (i := i) (j := 2) (lv0 := 3) (by omega) hb rfl rfl (by decide) dL_law_565 dL_law_566 dL_law_567 dL_law_568 dL_law_569 ?_
  refine VL_arg C (i := i) (j := 3) (lv0 := 3) (by omega) hb rfl rfl (by decide) dL_law_570 dL_law_571 dL_law_572 dL_law_573 dL_law_574 ?_
  refine VL_call C (k := 145) (As := [.int (l_x X (i + 1)), .int (l_x X (i + 2)), .int (l_x X (i + 3))]) (c_X7_shines (lw_is7 X) (LI_M I.1 hc hm (bo_shines (l_x X (i + 1)) (l_x X (i + 2)) (l_x X (i + 3))))) Y_X7_shines Z_X7_shines rfl (o7 (lw_is7 X)) (by decide) kz_22 rfl rfl (Nat.le_of_ble_eq_true rfl) dL_law_575 (fun v7 N7 q7 => ?_)
  obtain ⟨r7, rfl, e7, I2⟩ := q7
  exact VL_icmp_eq C dL_law_578 (by decide) (fun _ => next _ _ I2) (fun e => absurd (e6.trans e7.symm) e)
theorem lc_11 {X : lX} (C : CL X) {i : Nat} {S : zS} {M : mM} (hi : i + 5 ≤ l_n X) (hb : l_n X ≤ 320) (I : LI X S M) (next : ∀ S' M', LI X S' M' → VL X 1048 (LK X i) [] M') : VL X 583 (LK X i) [] M := by
  refine VL_aload C 1 dL_law_583 rfl ?_
  refine VL_arg C (i := i) (j := 1) (lv0 := 3) (by omega) hb rfl rfl (by decide) dL_law_584 dL_law_585 dL_law_586 dL_law_587 dL_law_588 ?_
  refine VL_arg C (i := i) (j := 2) (lv0 := 3) (by omega) hb rfl rfl (by decide) dL_law_589 dL_law_590 dL_law_591 dL_law_592 dL_law_593 ?_
  refine VL_call C (k := 0) (As := [.int (l_x X (i + 1)), .int (l_x X (i + 2))]) (c_X6_fits (lw_is6 X) (LI_C I (bo_fits (l_x X (i + 1)) (l_x X (i + 2))))) Y_X6_fits Z_X6_fits rfl (o6 (lw_is6 X)) (by decide) kz_23 rfl rfl (Nat.le_of_ble_eq_true rfl) dL_law_594 (fun v6 N6 q6 => ?_)
  obtain ⟨r6, rfl, e6, hc, hm⟩ := q6
  refine VL_aload C 2 dL_law_597 rfl ?_
  refine VL_arg C (i := i) (j := 1) (lv0 := 3) (by omega) hb rfl rfl (by decide) dL_law_598 dL_law_599 dL_law_600 dL_law_601 dL_law_602 ?_
  refine VL_arg C (i := i) (j := 2) (lv0 := 3) (by omega) hb rfl rfl (by decide) dL_law_603 dL_law_604 dL_law_605 dL_law_606 dL_law_607 ?_
  refine VL_call C (k := 145) (As := [.int (l_x X (i + 1)), .int (l_x X (i + 2))]) (c_X7_fits (lw_is7 X) (LI_M I.1 hc hm (bo_fits (l_x X (i + 1)) (l_x X (i + 2))))) Y_X7_fits Z_X7_fits rfl (o7 (lw_is7 X)) (by decide) kz_24 rfl rfl (Nat.le_of_ble_eq_true rfl) dL_law_608 (fun v7 N7 q7 => ?_)
  obtain ⟨r7, rfl, e7, I2⟩ := q7
  exact VL_icmp_eq C dL_law_611 (by decide) (fun _ => next _ _ I2) (fun e => absurd (e6.trans e7.symm) e)
theorem lc_12 {X : lX} (C : CL X) {i : Nat} {S : zS} {M : mM} (hi : i + 5 ≤ l_n X) (hb : l_n X ≤ 320) (I : LI X S M) (next : ∀ S' M', LI X S' M' → VL X 1048 (LK X i) [] M') : VL X 616 (LK X i) [] M := by
  refine VL_aload C 1 dL_law_616 rfl ?_
  refine VL_arg C (i := i) (j := 1) (lv0 := 3) (by omega) hb rfl rfl (by decide) dL_law_617 dL_law_618 dL_law_619 dL_law_620 dL_law_621 ?_
  refine VL_arg C (i := i) (j := 2) (lv0 := 3) (by omega) hb rfl rfl (by decide) dL_law_622 dL_law_623 dL_law_624 dL_law_625 dL_law_626 ?_
  refine VL_call C (k := 0) (As := [.int (l_x X (i + 1)), .int (l_x X (i + 2))]) (c_X6_odds (lw_is6 X) (LI_C I (bo_odds (l_x X (i + 1)) (l_x X (i + 2))))) Y_X6_odds Z_X6_odds rfl (o6 (lw_is6 X)) (by decide) kz_25 rfl rfl (Nat.le_of_ble_eq_true rfl) dL_law_627 (fun v6 N6 q6 => ?_)
  obtain ⟨r6, rfl, e6, hc, hm⟩ := q6
  refine VL_aload C 2 dL_law_630 rfl ?_
  refine VL_arg C (i := i) (j := 1) (lv0 := 3) (by omega) hb rfl rfl (by decide) dL_law_631 dL_law_632 dL_law_633 dL_law_634 dL_law_635 ?_
  refine VL_arg C (i := i) (j := 2) (lv0 := 3) (by omega) hb rfl rfl (by decide) dL_law_636 dL_law_637 dL_law_638 dL_law_639 dL_law_640 ?_
  refine VL_call C (k := 145) (As := [.int (l_x X (i + 1)), .int (l_x X (i + 2))]) (c_X7_odds (lw_is7 X) (LI_M I.1 hc hm (bo_odds (l_x X (i + 1)) (l_x X (i + 2))))) Y_X7_odds Z_X7_odds rfl (o7 (lw_is7 X)) (by decide) kz_26 rfl rfl (Nat.le_of_ble_eq_true rfl) dL_law_641 (fun v7 N7 q7 => ?_)
  obtain ⟨r7, rfl, e7, I2⟩ := q7
  exact VL_icmp_eq C dL_law_644 (by decide) (fun _ => next _ _ I2) (fun e => absurd (e6.trans e7.symm) e)
theorem lc_13 {X : lX} (C : CL X) {i : Nat} {S : zS} {M : mM} (hi : i + 5 ≤ l_n X) (hb : l_n X ≤ 320) (I : LI X S M) (next : ∀ S' M', LI X S' M' → VL X 1048 (LK X i) [] M') : VL X 649 (LK X i) [] M := by
  refine VL_aload C 1 dL_law_649 rfl ?_
  refine VL_arg C (i := i) (j := 1) (lv0 := 3) (by omega) hb rfl rfl (by decide) dL_law_650 dL_law_651 dL_law_652 dL_law_653 dL_law_654 ?_
  refine VL_call C (k := 0) (As := [.int (l_x X (i + 1))]) (c_X6_above (lw_is6 X) (LI_C I (bo_above (l_x X (i + 1))))) Y_X6_above Z_X6_above rfl (o6 (lw_is6 X)) (by decide) kz_27 rfl rfl (Nat.le_of_ble_eq_true rfl) dL_law_655 (fun v6 N6 q6 => ?_)
  obtain ⟨r6, rfl, e6, hc, hm⟩ := q6
  refine VL_aload C 2 dL_law_658 rfl ?_
  refine VL_arg C (i := i) (j := 1) (lv0 := 3) (by omega) hb rfl rfl (by decide) dL_law_659 dL_law_660 dL_law_661 dL_law_662 dL_law_663 ?_
  refine VL_call C (k := 145) (As := [.int (l_x X (i + 1))]) (c_X7_above (lw_is7 X) (LI_M I.1 hc hm (bo_above (l_x X (i + 1))))) Y_X7_above Z_X7_above rfl (o7 (lw_is7 X)) (by decide) kz_28 rfl rfl (Nat.le_of_ble_eq_true rfl) dL_law_664 (fun v7 N7 q7 => ?_)
  obtain ⟨r7, rfl, e7, I2⟩ := q7
  exact VL_icmp_eq C dL_law_667 (by decide) (fun _ => next _ _ I2) (fun e => absurd (e6.trans e7.symm) e)
theorem lc_14 {X : lX} (C : CL X) {i : Nat} {S : zS} {M : mM} (hi : i + 5 ≤ l_n X) (hb : l_n X ≤ 320) (I : LI X S M) (next : ∀ S' M', LI X S' M' → VL X 1048 (LK X i) [] M') : VL X 672 (LK X i) [] M := by
  refine VL_aload C 1 dL_law_672 rfl ?_
  refine VL_arg C (i := i) (j := 1) (lv0 := 3) (by omega) hb rfl rfl (by decide) dL_law_673 dL_law_674 dL_law_675 dL_law_676 dL_law_677 ?_
  refine VL_arg C (i := i) (j := 2) (lv0 := 3) (by omega) hb rfl rfl (by decide) dL_law_678 dL_law_679 dL_law_680 dL_law_681 dL_law_682 ?_
  refine VL_call C (k := 0) (As := [.int (l_x X (i + 1)), .int (l_x X (i + 2))]) (c_X6_likeliest (lw_is6 X) (LI_C I (bo_likeliest (l_x X (i + 1)) (l_x X (i + 2))))) Y_X6_likeliest Z_X6_likeliest rfl (o6 (lw_is6 X)) (by decide) kz_29 rfl rfl (Nat.le_of_ble_eq_true rfl) dL_law_683 (fun v6 N6 q6 => ?_)
  obtain ⟨r6, rfl, e6, hc, hm⟩ := q6
  refine VL_aload C 2 dL_law_686 rfl ?_
  refine VL_arg C (i := i) (j := 1) (lv0 := 3) (by omega) hb rfl rfl (by decide) dL_law_687 dL_law_688 dL_law_689 dL_law_690 dL_law_691 ?_
  refine VL_arg C (i := i) (j := 2) (lv0 := 3) (by omega) hb rfl rfl (by decide) dL_law_692 dL_law_693 dL_law_694 dL_law_695 dL_law_696 ?_
  refine VL_call C (k := 145) (As := [.int (l_x X (i + 1)), .int (l_x X (i + 2))]) (c_X7_likeliest (lw_is7 X) (LI_M I.1 hc hm (bo_likeliest (l_x X (i + 1)) (l_x X (i + 2))))) Y_X7_likeliest Z_X7_likeliest rfl (o7 (lw_is7 X)) (by decide) kz_30 rfl rfl (Nat.le_of_ble_eq_true rfl) dL_law_697 (fun v7 N7 q7 => ?_)
  obtain ⟨r7, rfl, e7, I2⟩ := q7
  exact VL_icmp_eq C dL_law_700 (by decide) (fun _ => next _ _ I2) (fun e => absurd (e6.trans e7.symm) e)
theorem lc_15 {X : lX} (C : CL X) {i : Nat} {S : zS} {M : mM} (hi : i + 5 ≤ l_n X) (hb : l_n X ≤ 320) (I : LI X S M) (next : ∀ S' M', LI X S' M' → VL X 1048 (LK X i) [] M') : VL X 705 (LK X i) [] M := by
  refine VL_aload C 1 dL_law_705 rfl ?_
  refine VL_arg C (i := i) (j := 1) (lv0 := 3) (by omega) hb rfl rfl (by decide) dL_law_706 dL_law_707 dL_law_708 dL_law_709 dL_law_710 ?_
  refine VL_call C (k := 0) (As := [.int (l_x X (i + 1))]) (c_X6_stood (lw_is6 X) (LI_C I (bo_stood (l_x X (i + 1))))) Y_X6_stood Z_X6_stood rfl (o6 (lw_is6 X)) (by decide) kz_31 rfl rfl (Nat.le_of_ble_eq_true rfl) dL_law_711 (fun v6 N6 q6 => ?_)
  obtain ⟨r6, rfl, e6, hc, hm⟩ := q6
  refine VL_aload C 2 dL_law_714 rfl ?_
  refine VL_arg C (i := i) (j := 1) (lv0 := 3) (by omega) hb rfl rfl (by decide) dL_law_715 dL_law_716 dL_law_717 dL_law_718 dL_law_719 ?_
  refine VL_call C (k := 145) (As := [.int (l_x X (i + 1))]) (c_X7_stood (lw_is7 X) (LI_M I.1 hc hm (bo_stood (l_x X (i + 1))))) Y_X7_stood Z_X7_stood rfl (o7 (lw_is7 X)) (by decide) kz_32 rfl rfl (Nat.le_of_ble_eq_true rfl) dL_law_720 (fun v7 N7 q7 => ?_)
  obtain ⟨r7, rfl, e7, I2⟩ := q7
  exact VL_icmp_eq C dL_law_723 (by decide) (fun _ => next _ _ I2) (fun e => absurd (e6.trans e7.symm) e)
theorem lc_16 {X : lX} (C : CL X) {i : Nat} {S : zS} {M : mM} (hi : i + 5 ≤ l_n X) (hb : l_n X ≤ 320) (I : LI X S M) (next : ∀ S' M', LI X S' M' → VL X 1048 (LK X i) [] M') : VL X 728 (LK X i) [] M := by
  refine VL_aload C 1 dL_law_728 rfl ?_
  refine VL_arg C (i := i) (j := 1) (lv0 := 3) (by omega) hb rfl rfl (by decide) dL_law_729 dL_law_730 dL_law_731 dL_law_732 dL_law_733 ?_
  refine VL_arg C (i := i) (j := 2) (lv0 := 3) (by omega) hb rfl rfl (by decide) dL_law_734 dL_law_735 dL_law_736 dL_law_737 dL_law_738 ?_
  refine VL_call C (k := 0) (As := [.int (l_x X (i + 1)), .int (l_x X (i + 2))]) (c_X6_span (lw_is6 X) (LI_C I (bo_span (l_x X (i + 1)) (l_x X (i + 2))))) Y_X6_span Z_X6_span rfl (o6 (lw_is6 X)) (by decide) kz_33 rfl rfl (Nat.le_of_ble_eq_true rfl) dL_law_739 (fun v6 N6 q6 => ?_)
  obtain ⟨r6, rfl, e6, hc, hm⟩ := q6
  refine VL_aload C 2 dL_law_742 rfl ?_
  refine VL_arg C (i := i) (j := 1) (lv0 := 3) (by omega) hb rfl rfl (by decide) dL_law_743 dL_law_744 dL_law_745 dL_law_746 dL_law_747 ?_
  refine VL_arg C (i := i) (j := 2) (lv0 := 3) (by omega) hb rfl rfl (by decide) dL_law_748 dL_law_749 dL_law_750 dL_law_751 dL_law_752 ?_
  refine VL_call C (k := 145) (As := [.int (l_x X (i + 1)), .int (l_x X (i + 2))]) (c_X7_span (lw_is7 X) (LI_M I.1 hc hm (bo_span (l_x X (i + 1)) (l_x X (i + 2))))) Y_X7_span Z_X7_span rfl (o7 (lw_is7 X)) (by decide) kz_34 rfl rfl (Nat.le_of_ble_eq_true rfl) dL_law_753 (fun v7 N7 q7 => ?_)
  obtain ⟨r7, rfl, e7, I2⟩ := q7
  exact VL_icmp_eq C dL_law_756 (by decide) (fun _ => next _ _ I2) (fun e => absurd (e6.trans e7.symm) e)
theorem lc_17 {X : lX} (C : CL X) {i : Nat} {S : zS} {M : mM} (hi : i + 5 ≤ l_n X) (hb : l_n X ≤ 320) (I : LI X S M) (next : ∀ S' M', LI X S' M' → VL X 1048 (LK X i) [] M') : VL X 761 (LK X i) [] M := by
  refine VL_aload C 1 dL_law_761 rfl ?_
  refine VL_arg C (i := i) (j := 1) (lv0 := 3) (by omega) hb rfl rfl (by decide) dL_law_762 dL_law_763 dL_law_764 dL_law_765 dL_law_766 ?_
  refine VL_call C (k := 0) (As := [.int (l_x X (i + 1))]) (c_X6_later (lw_is6 X) (LI_C I (bo_later (l_x X (i + 1))))) Y_X6_later Z_X6_later rfl (o6 (lw_is6 X)) (by decide) kz_35 rfl rfl (Nat.le_of_ble_eq_true rfl) dL_law_767 (fun v6 N6 q6 => ?_)
  obtain ⟨r6, rfl, e6, hc, hm⟩ := q6
  refine VL_aload C 2 dL_law_770 rfl ?_
  refine VL_arg C (i := i) (j := 1) (lv0 := 3) (by omega) hb rfl rfl (by decide) dL_law_771 dL_law_772 dL_law_773 dL_law_774 dL_law_775 ?_
  refine VL_call C (k := 145) (As := [.int (l_x X (i + 1))]) (c_X7_later (lw_is7 X) (LI_M I.1 hc hm (bo_later (l_x X (i + 1))))) Y_X7_later Z_X7_later rfl (o7 (lw_is7 X)) (by decide) kz_36 rfl rfl (Nat.le_of_ble_eq_true rfl) dL_law_776 (fun v7 N7 q7 => ?_)
  obtain ⟨r7, rfl, e7, I2⟩ := q7
  exact VL_icmp_eq C dL_law_779 (by decide) (fun _ => next _ _ I2) (fun e => absurd (e6.trans e7.symm) e)
theorem lc_18 {X : lX} (C : CL X) {i : Nat} {S : zS} {M : mM} (hi : i + 5 ≤ l_n X) (hb : l_n X ≤ 320) (I : LI X S M) (next : ∀ S' M', LI X S' M' → VL X 1048 (LK X i) [] M') : VL X 784 (LK X i) [] M := by
  refine VL_aload C 1 dL_law_784 rfl ?_
  refine VL_call C (k := 0) (As := []) (c_X6_next (lw_is6 X) (LI_C I bo_next)) Y_X6_next Z_X6_next rfl (o6 (lw_is6 X)) (by decide) kz_37 rfl rfl (Nat.le_of_ble_eq_true rfl) dL_law_785 (fun v6 N6 q6 => ?_)
  obtain ⟨r6, rfl, e6, hc, hm⟩ := q6
  refine VL_aload C 2 dL_law_788 rfl ?_
  refine VL_call C (k := 145) (As := []) (c_X7_next (lw_is7 X) (LI_M I.1 hc hm bo_next)) Y_X7_next Z_X7_next rfl (o7 (lw_is7 X)) (by decide) kz_38 rfl rfl (Nat.le_of_ble_eq_true rfl) dL_law_789 (fun v7 N7 q7 => ?_)
  obtain ⟨r7, rfl, e7, I2⟩ := q7
  exact VL_icmp_eq C dL_law_792 (by decide) (fun _ => next _ _ I2) (fun e => absurd (e6.trans e7.symm) e)
theorem lc_19 {X : lX} (C : CL X) {i : Nat} {S : zS} {M : mM} (hi : i + 5 ≤ l_n X) (hb : l_n X ≤ 320) (I : LI X S M) (next : ∀ S' M', LI X S' M' → VL X 1048 (LK X i) [] M') : VL X 797 (LK X i) [] M := by
  refine VL_aload C 1 dL_law_797 rfl ?_
  refine VL_arg C (i := i) (j := 1) (lv0 := 3) (by omega) hb rfl rfl (by decide) dL_law_798 dL_law_799 dL_law_800 dL_law_801 dL_law_802 ?_
  refine VL_call C (k := 0) (As := [.int (l_x X (i + 1))]) (c_X6_rests (lw_is6 X) (LI_C I (bo_rests (l_x X (i + 1))))) Y_X6_rests Z_X6_rests rfl (o6 (lw_is6 X)) (by decide) kz_39 rfl rfl (Nat.le_of_ble_eq_true rfl) dL_law_803 (fun v6 N6 q6 => ?_)
  obtain ⟨r6, rfl, e6, hc, hm⟩ := q6
  refine VL_aload C 2 dL_law_806 rfl ?_
  refine VL_arg C (i := i) (j := 1) (lv0 := 3) (by omega) hb rfl rfl (by decide) dL_law_807 dL_law_808 dL_law_809 dL_law_810 dL_law_811 ?_
  refine VL_call C (k := 145) (As := [.int (l_x X (i + 1))]) (c_X7_rests (lw_is7 X) (LI_M I.1 hc hm (bo_rests (l_x X (i + 1))))) Y_X7_rests Z_X7_rests rfl (o7 (lw_is7 X)) (by decide) kz_40 rfl rfl (Nat.le_of_ble_eq_true rfl) dL_law_812 (fun v7 N7 q7 => ?_)
  obtain ⟨r7, rfl, e7, I2⟩ := q7
  exact VL_icmp_eq C dL_law_815 (by decide) (fun _ => next _ _ I2) (fun e => absurd (e6.trans e7.symm) e)
theorem lc_20 {X : lX} (C : CL X) {i : Nat} {S : zS} {M : mM} (hi : i + 5 ≤ l_n X) (hb : l_n X ≤ 320) (I : LI X S M) (next : ∀ S' M', LI X S' M' → VL X 1048 (LK X i) [] M') : VL X 820 (LK X i) [] M := by
  refine VL_aload C 1 dL_law_820 rfl ?_
  refine VL_arg C (i := i) (j := 1) (lv0 := 3) (by omega) hb rfl rfl (by decide) dL_law_821 dL_law_822 dL_law_823 dL_law_824 dL_law_825 ?_
  refine VL_arg C (i := i) (j := 2) (lv0 := 3) (by omega) hb rfl rfl (by decide) dL_law_826 dL_law_827 dL_law_828 dL_law_829 dL_law_830 ?_
  refine VL_call C (k := 0) (As := [.int (l_x X (i + 1)), .int (l_x X (i + 2))]) (c_X6_resting (lw_is6 X) (LI_C I (bo_resting (l_x X (i + 1)) (l_x X (i + 2))))) Y_X6_resting Z_X6_resting rfl (o6 (lw_is6 X)) (by decide) kz_41 rfl rfl (Nat.le_of_ble_eq_true rfl) dL_law_831 (fun v6 N6 q6 => ?_)
  obtain ⟨r6, rfl, e6, hc, hm⟩ := q6
  refine VL_aload C 2 dL_law_834 rfl ?_
  refine VL_arg C (i := i) (j := 1) (lv0 := 3) (by omega) hb rfl rfl (by decide) dL_law_835 dL_law_836 dL_law_837 dL_law_838 dL_law_839 ?_
  refine VL_arg C (i := i) (j := 2) (lv0 := 3) (by omega) hb rfl rfl (by decide) dL_law_840 dL_law_841 dL_law_842 dL_law_843 dL_law_844 ?_
  refine VL_call C (k := 145) (As := [.int (l_x X (i + 1)), .int (l_x X (i + 2))]) (c_X7_resting (lw_is7 X) (LI_M I.1 hc hm (bo_resting (l_x X (i + 1)) (l_x X (i + 2))))) Y_X7_resting Z_X7_resting rfl (o7 (lw_is7 X)) (by decide) kz_42 rfl rfl (Nat.le_of_ble_eq_true rfl) dL_law_845 (fun v7 N7 q7 => ?_)
  obtain ⟨r7, rfl, e7, I2⟩ := q7
  exact VL_icmp_eq C dL_law_848 (by decide) (fun _ => next _ _ I2) (fun e => absurd (e6.trans e7.symm) e)
theorem lc_21 {X : lX} (C : CL X) {i : Nat} {S : zS} {M : mM} (hi : i + 5 ≤ l_n X) (hb : l_n X ≤ 320) (I : LI X S M) (next : ∀ S' M', LI X S' M' → VL X 1048 (LK X i) [] M') : VL X 853 (LK X i) [] M := by
  refine VL_aload C 1 dL_law_853 rfl ?_
  refine VL_arg C (i := i) (j := 1) (lv0 := 3) (by omega) hb rfl rfl (by decide) dL_law_854 dL_law_855 dL_law_856 dL_law_857 dL_law_858 ?_
  refine VL_arg C (i := i) (j := 2) (lv0 := 3) (by omega) hb rfl rfl (by decide) dL_law_859 dL_law_860 dL_law_861 dL_law_862 dL_law_863 ?_
  refine VL_call C (k := 0) (As := [.int (l_x X (i + 1)), .int (l_x X (i + 2))]) (c_X6_bright (lw_is6 X) (LI_C I (bo_bright (l_x X (i + 1)) (l_x X (i + 2))))) Y_X6_bright Z_X6_bright rfl (o6 (lw_is6 X)) (by decide) kz_43 rfl rfl (Nat.le_of_ble_eq_true rfl) dL_law_864 (fun v6 N6 q6 => ?_)
  obtain ⟨r6, rfl, e6, hc, hm⟩ := q6
  refine VL_aload C 2 dL_law_867 rfl ?_
  refine VL_arg C (i := i) (j := 1) (lv0 := 3) (by omega) hb rfl rfl (by decide) dL_law_868 dL_law_869 dL_law_870 dL_law_871 dL_law_872 ?_
  refine VL_arg C (i := i) (j := 2) (lv0 := 3) (by omega) hb rfl rfl (by decide) dL_law_873 dL_law_874 dL_law_875 dL_law_876 dL_law_877 ?_
  refine VL_call C (k := 145) (As := [.int (l_x X (i + 1)), .int (l_x X (i + 2))]) (c_X7_bright (lw_is7 X) (LI_M I.1 hc hm (bo_bright (l_x X (i + 1)) (l_x X (i + 2))))) Y_X7_bright Z_X7_bright rfl (o7 (lw_is7 X)) (by decide) kz_44 rfl rfl (Nat.le_of_ble_eq_true rfl) dL_law_878 (fun v7 N7 q7 => ?_)
  obtain ⟨r7, rfl, e7, I2⟩ := q7
  exact VL_icmp_eq C dL_law_881 (by decide) (fun _ => next _ _ I2) (fun e => absurd (e6.trans e7.symm) e)
theorem lc_22 {X : lX} (C : CL X) {i : Nat} {S : zS} {M : mM} (hi : i + 5 ≤ l_n X) (hb : l_n X ≤ 320) (I : LI X S M) (next : ∀ S' M', LI X S' M' → VL X 1048 (LK X i) [] M') : VL X 886 (LK X i) [] M := by
  refine VL_aload C 1 dL_law_886 rfl ?_
  refine VL_arg C (i := i) (j := 1) (lv0 := 3) (by omega) hb rfl rfl (by decide) dL_law_887 dL_law_888 dL_law_889 dL_law_890 dL_law_891 ?_
  refine VL_call C (k := 0) (As := [.int (l_x X (i + 1))]) (c_X6_sign (lw_is6 X) (LI_C I (bo_sign (l_x X (i + 1))))) Y_X6_sign Z_X6_sign rfl (o6 (lw_is6 X)) (by decide) kz_45 rfl rfl (Nat.le_of_ble_eq_true rfl) dL_law_892 (fun v6 N6 q6 => ?_)
  obtain ⟨r6, rfl, e6, hc, hm⟩ := q6
  refine VL_aload C 2 dL_law_895 rfl ?_
  refine VL_arg C (i := i) (j := 1) (lv0 := 3) (by omega) hb rfl rfl (by decide) dL_law_896 dL_law_897 dL_law_898 dL_law_899 dL_law_900 ?_
  refine VL_call C (k := 145) (As := [.int (l_x X (i + 1))]) (c_X7_sign (lw_is7 X) (LI_M I.1 hc hm (bo_sign (l_x X (i + 1))))) Y_X7_sign Z_X7_sign rfl (o7 (lw_is7 X)) (by decide) kz_46 rfl rfl (Nat.le_of_ble_eq_true rfl) dL_law_901 (fun v7 N7 q7 => ?_)
  obtain ⟨r7, rfl, e7, I2⟩ := q7
  exact VL_icmp_eq C dL_law_904 (by decide) (fun _ => next _ _ I2) (fun e => absurd (e6.trans e7.symm) e)
theorem lc_23 {X : lX} (C : CL X) {i : Nat} {S : zS} {M : mM} (hi : i + 5 ≤ l_n X) (hb : l_n X ≤ 320) (I : LI X S M) (next : ∀ S' M', LI X S' M' → VL X 1048 (LK X i) [] M') : VL X 909 (LK X i) [] M := by
  refine VL_aload C 1 dL_law_909 rfl ?_
  refine VL_arg C (i := i) (j := 1) (lv0 := 3) (by omega) hb rfl rfl (by decide) dL_law_910 dL_law_911 dL_law_912 dL_law_913 dL_law_914 ?_
  refine VL_arg C (i := i) (j := 2) (lv0 := 3) (by omega) hb rfl rfl (by decide) dL_law_915 dL_law_916 dL_law_917 dL_law_918 dL_law_919 ?_
  refine VL_call C (k := 0) (As := [.int (l_x X (i + 1)), .int (l_x X (i + 2))]) (c_X6_limb (lw_is6 X) (LI_C I (bo_limb (l_x X (i + 1)) (l_x X (i + 2))))) Y_X6_limb Z_X6_limb rfl (o6 (lw_is6 X)) (by decide) kz_47 rfl rfl (Nat.le_of_ble_eq_true rfl) dL_law_920 (fun v6 N6 q6 => ?_)
  obtain ⟨r6, rfl, e6, hc, hm⟩ := q6
  refine VL_aload C 2 dL_law_923 rfl ?_
  refine VL_arg C (i := i) (j := 1) (lv0 := 3) (by omega) hb rfl rfl (by decide) dL_law_924 dL_law_925 dL_law_926 dL_law_927 dL_law_928 ?_
  refine VL_arg C (i := i) (j := 2) (lv0 := 3) (by omega) hb rfl rfl (by decide) dL_law_929 dL_law_930 dL_law_931 dL_law_932 dL_law_933 ?_
  refine VL_call C (k := 145) (As := [.int (l_x X (i + 1)), .int (l_x X (i + 2))]) (c_X7_limb (lw_is7 X) (LI_M I.1 hc hm (bo_limb (l_x X (i + 1)) (l_x X (i + 2))))) Y_X7_limb Z_X7_limb rfl (o7 (lw_is7 X)) (by decide) kz_48 rfl rfl (Nat.le_of_ble_eq_true rfl) dL_law_934 (fun v7 N7 q7 => ?_)
  obtain ⟨r7, rfl, e7, I2⟩ := q7
  exact VL_icmp_eq C dL_law_937 (by decide) (fun _ => next _ _ I2) (fun e => absurd (e6.trans e7.symm) e)
theorem lc_24 {X : lX} (C : CL X) {i : Nat} {S : zS} {M : mM} (hi : i + 5 ≤ l_n X) (hb : l_n X ≤ 320) (I : LI X S M) (next : ∀ S' M', LI X S' M' → VL X 1048 (LK X i) [] M') : VL X 942 (LK X i) [] M := by
  refine VL_aload C 1 dL_law_942 rfl ?_
  refine VL_arg C (i := i) (j := 1) (lv0 := 3) (by omega) hb rfl rfl (by decide) dL_law_943 dL_law_944 dL_law_945 dL_law_946 dL_law_947 ?_
  refine VL_call C (k := 0) (As := [.int (l_x X (i + 1))]) (c_X6_image (lw_is6 X) (LI_C I (bo_image (l_x X (i + 1))))) Y_X6_image Z_X6_image rfl (o6 (lw_is6 X)) (by decide) kz_49 rfl rfl (Nat.le_of_ble_eq_true rfl) dL_law_948 (fun v6 N6 q6 => ?_)
  obtain ⟨r6, rfl, e6, hc, hm⟩ := q6
  refine VL_aload C 2 dL_law_951 rfl ?_
  refine VL_arg C (i := i) (j := 1) (lv0 := 3) (by omega) hb rfl rfl (by decide) dL_law_952 dL_law_953 dL_law_954 dL_law_955 dL_law_956 ?_
  refine VL_call C (k := 145) (As := [.int (l_x X (i + 1))]) (c_X7_image (lw_is7 X) (LI_M I.1 hc hm (bo_image (l_x X (i + 1))))) Y_X7_image Z_X7_image rfl (o7 (lw_is7 X)) (by decide) kz_50 rfl rfl (Nat.le_of_ble_eq_true rfl) dL_law_957 (fun v7 N7 q7 => ?_)
  obtain ⟨r7, rfl, e7, I2⟩ := q7
  exact VL_icmp_eq C dL_law_960 (by decide) (fun _ => next _ _ I2) (fun e => absurd (e6.trans e7.symm) e)
theorem lc_25 {X : lX} (C : CL X) {i : Nat} {S : zS} {M : mM} (hi : i + 5 ≤ l_n X) (hb : l_n X ≤ 320) (I : LI X S M) (next : ∀ S' M', LI X S' M' → VL X 1048 (LK X i) [] M') : VL X 965 (LK X i) [] M := by
  refine VL_aload C 1 dL_law_965 rfl ?_
  refine VL_arg C (i := i) (j := 1) (lv0 := 3) (by omega) hb rfl rfl (by decide) dL_law_966 dL_law_967 dL_law_968 dL_law_969 dL_law_970 ?_
  refine VL_call C (k := 0) (As := [.int (l_x X (i + 1))]) (c_X6_from (lw_is6 X) (LI_C I (bo_from (l_x X (i + 1))))) Y_X6_from Z_X6_from rfl (o6 (lw_is6 X)) (by decide) kz_51 rfl rfl (Nat.le_of_ble_eq_true rfl) dL_law_971 (fun v6 N6 q6 => ?_)
  obtain ⟨r6, rfl, e6, hc, hm⟩ := q6
  refine VL_aload C 2 dL_law_974 rfl ?_
  refine VL_arg C (i := i) (j := 1) (lv0 := 3) (by omega) hb rfl rfl (by decide) dL_law_975 dL_law_976 dL_law_977 dL_law_978 dL_law_979 ?_
  refine VL_call C (k := 145) (As := [.int (l_x X (i + 1))]) (c_X7_from (lw_is7 X) (LI_M I.1 hc hm (bo_from (l_x X (i + 1))))) Y_X7_from Z_X7_from rfl (o7 (lw_is7 X)) (by decide) kz_52 rfl rfl (Nat.le_of_ble_eq_true rfl) dL_law_980 (fun v7 N7 q7 => ?_)
  obtain ⟨r7, rfl, e7, I2⟩ := q7
  exact VL_icmp_eq C dL_law_983 (by decide) (fun _ => next _ _ I2) (fun e => absurd (e6.trans e7.symm) e)
theorem lc_26 {X : lX} (C : CL X) {i : Nat} {S : zS} {M : mM} (hi : i + 5 ≤ l_n X) (hb : l_n X ≤ 320) (I : LI X S M) (next : ∀ S' M', LI X S' M' → VL X 1048 (LK X i) [] M') : VL X 988 (LK X i) [] M := by
  refine VL_aload C 1 dL_law_988 rfl ?_
  refine VL_arg C (i := i) (j := 1) (lv0 := 3) (by omega) hb rfl rfl (by decide) dL_law_989 dL_law_990 dL_law_991 dL_law_992 dL_law_993 ?_
  refine VL_call C (k := 0) (As := [.int (l_x X (i + 1))]) (c_X6_status (lw_is6 X) (LI_C I (bo_status (l_x X (i + 1))))) Y_X6_status Z_X6_status rfl (o6 (lw_is6 X)) (by decide) kz_53 rfl rfl (Nat.le_of_ble_eq_true rfl) dL_law_994 (fun v6 N6 q6 => ?_)
  obtain ⟨r6, rfl, e6, hc, hm⟩ := q6
  refine VL_aload C 2 dL_law_997 rfl ?_
  refine VL_arg C (i := i) (j := 1) (lv0 := 3) (by omega) hb rfl rfl (by decide) dL_law_998 dL_law_999 dL_law_1000 dL_law_1001 dL_law_1002 ?_
  refine VL_call C (k := 145) (As := [.int (l_x X (i + 1))]) (c_X7_status (lw_is7 X) (LI_M I.1 hc hm (bo_status (l_x X (i + 1))))) Y_X7_status Z_X7_status rfl (o7 (lw_is7 X)) (by decide) kz_54 rfl rfl (Nat.le_of_ble_eq_true rfl) dL_law_1003 (fun v7 N7 q7 => ?_)
  obtain ⟨r7, rfl, e7, I2⟩ := q7
  exact VL_icmp_eq C dL_law_1006 (by decide) (fun _ => next _ _ I2) (fun e => absurd (e6.trans e7.symm) e)
theorem lc_27 {X : lX} (C : CL X) {i : Nat} {S : zS} {M : mM} (hi : i + 5 ≤ l_n X) (hb : l_n X ≤ 320) (I : LI X S M) (next : ∀ S' M', LI X S' M' → VL X 1048 (LK X i) [] M') : VL X 1011 (LK X i) [] M := by
  refine VL_aload C 1 dL_law_1011 rfl ?_
  refine VL_arg C (i := i) (j := 1) (lv0 := 3) (by omega) hb rfl rfl (by decide) dL_law_1012 dL_law_1013 dL_law_1014 dL_law_1015 dL_law_1016 ?_
  refine VL_call C (k := 0) (As := [.int (l_x X (i + 1))]) (c_X6_count (lw_is6 X) (LI_C I (bo_count (l_x X (i + 1))))) Y_X6_count Z_X6_count rfl (o6 (lw_is6 X)) (by decide) kz_55 rfl rfl (Nat.le_of_ble_eq_true rfl) dL_law_1017 (fun v6 N6 q6 => ?_)
  obtain ⟨r6, rfl, e6, hc, hm⟩ := q6
  refine VL_aload C 2 dL_law_1020 rfl ?_
  refine VL_arg C (i := i) (j := 1) (lv0 := 3) (by omega) hb rfl rfl (by decide) dL_law_1021 dL_law_1022 dL_law_1023 dL_law_1024 dL_law_1025 ?_
  refine VL_call C (k := 145) (As := [.int (l_x X (i + 1))]) (c_X7_count (lw_is7 X) (LI_M I.1 hc hm (bo_count (l_x X (i + 1))))) Y_X7_count Z_X7_count rfl (o7 (lw_is7 X)) (by decide) kz_56 rfl rfl (Nat.le_of_ble_eq_true rfl) dL_law_1026 (fun v7 N7 q7 => ?_)
  obtain ⟨r7, rfl, e7, I2⟩ := q7
  exact VL_icmp_eq C dL_law_1029 (by decide) (fun _ => next _ _ I2) (fun e => absurd (e6.trans e7.symm) e)
theorem lc_28 {X : lX} (C : CL X) {i : Nat} {S : zS} {M : mM} (hi : i + 5 ≤ l_n X) (hb : l_n X ≤ 320) (I : LI X S M) (next : ∀ S' M', LI X S' M' → VL X 1048 (LK X i) [] M') : VL X 1034 (LK X i) [] M := by
  refine VL_aload C 1 dL_law_1034 rfl ?_
  refine VL_call C (k := 0) (As := []) (c_X6_digest (Q := fun r => r = F_digest S) (lw_is6 X) (sp_digest I.1 I.2.1 rfl)) Y_X6_digest Z_X6_digest rfl (o6 (lw_is6 X)) (by decide) kz_57 rfl rfl (Nat.le_of_ble_eq_true rfl) dL_law_1035 (fun v6 N6 q6 => ?_)
  obtain ⟨rfl, r6, rfl, rfl⟩ := q6
  refine VL_aload C 2 dL_law_1038 rfl ?_
  refine VL_call C (k := 145) (As := []) (c_X7_digest (Q := fun r => r = F_digest S) (lw_is7 X) (sp7_digest I.1 I.2.2 rfl)) Y_X7_digest Z_X7_digest rfl (o7 (lw_is7 X)) (by decide) kz_58 rfl rfl (Nat.le_of_ble_eq_true rfl) dL_law_1039 (fun v7 N7 q7 => ?_)
  obtain ⟨rfl, r7, rfl, rfl⟩ := q7
  refine VL_lcmp C dL_law_1042 ?_
  exact VL_if_eq C dL_law_1043 (by decide) (fun _ => next _ _ I) (fun e => absurd (lg_same _) e)
