/-! ===== the law, case by case ===== -/
theorem ml_L_21 : Cond.methodLink RL 21 yX9_feed ∈ LT := tb_in2 (i := 228) (by decide +kernel) (by decide +kernel)
theorem ml_L_25 : Cond.methodLink RL 25 yX10_feed ∈ LT := tb_in8 (i := 35) (by decide +kernel) (by decide +kernel)
theorem ml_L_26 : Cond.methodLink RL 26 yX9_text ∈ LT := tb_in2 (i := 236) (by decide +kernel) (by decide +kernel)
theorem ml_L_30 : Cond.methodLink RL 30 yX10_text ∈ LT := tb_in8 (i := 39) (by decide +kernel) (by decide +kernel)
theorem ml_L_31 : Cond.methodLink RL 31 yX9_fault ∈ LT := tb_in4 (i := 27) (by decide +kernel) (by decide +kernel)
theorem ml_L_34 : Cond.methodLink RL 34 yX10_fault ∈ LT := tb_in8 (i := 187) (by decide +kernel) (by decide +kernel)
theorem ml_L_35 : Cond.methodLink RL 35 yX9_named ∈ LT := tb_in4 (i := 31) (by decide +kernel) (by decide +kernel)
theorem ml_L_38 : Cond.methodLink RL 38 yX10_named ∈ LT := tb_in8 (i := 191) (by decide +kernel) (by decide +kernel)
theorem ml_L_49 : Cond.methodLink RL 49 yX9_noise ∈ LT := tb_in4 (i := 36) (by decide +kernel) (by decide +kernel)
theorem ml_L_52 : Cond.methodLink RL 52 yX10_noise ∈ LT := tb_in9 (i := 49) (by decide +kernel) (by decide +kernel)
theorem ml_L_53 : Cond.methodLink RL 53 yX9_claim ∈ LT := tb_in4 (i := 41) (by decide +kernel) (by decide +kernel)
theorem ml_L_56 : Cond.methodLink RL 56 yX10_claim ∈ LT := tb_in9 (i := 57) (by decide +kernel) (by decide +kernel)
theorem ml_L_57 : Cond.methodLink RL 57 yX9_link ∈ LT := tb_in4 (i := 45) (by decide +kernel) (by decide +kernel)
theorem ml_L_60 : Cond.methodLink RL 60 yX10_link ∈ LT := tb_in9 (i := 61) (by decide +kernel) (by decide +kernel)
theorem ml_L_61 : Cond.methodLink RL 61 yX9_far ∈ LT := tb_in4 (i := 49) (by decide +kernel) (by decide +kernel)
theorem ml_L_64 : Cond.methodLink RL 64 yX10_far ∈ LT := tb_in9 (i := 69) (by decide +kernel) (by decide +kernel)
theorem ml_L_65 : Cond.methodLink RL 65 yX9_law ∈ LT := tb_in4 (i := 119) (by decide +kernel) (by decide +kernel)
theorem ml_L_69 : Cond.methodLink RL 69 yX10_law ∈ LT := tb_in8 (i := 195) (by decide +kernel) (by decide +kernel)
theorem ml_L_70 : Cond.methodLink RL 70 yX9_heard ∈ LT := tb_in4 (i := 128) (by decide +kernel) (by decide +kernel)
theorem ml_L_73 : Cond.methodLink RL 73 yX10_heard ∈ LT := tb_in9 (i := 77) (by decide +kernel) (by decide +kernel)
theorem ml_L_74 : Cond.methodLink RL 74 yX9_hush ∈ LT := tb_in4 (i := 134) (by decide +kernel) (by decide +kernel)
theorem ml_L_78 : Cond.methodLink RL 78 yX10_hush ∈ LT := tb_in9 (i := 84) (by decide +kernel) (by decide +kernel)
theorem ml_L_79 : Cond.methodLink RL 79 yX9_whose ∈ LT := tb_in4 (i := 140) (by decide +kernel) (by decide +kernel)
theorem ml_L_82 : Cond.methodLink RL 82 yX10_whose ∈ LT := tb_in9 (i := 89) (by decide +kernel) (by decide +kernel)
theorem ml_L_83 : Cond.methodLink RL 83 yX9_spans ∈ LT := tb_in4 (i := 151) (by decide +kernel) (by decide +kernel)
theorem ml_L_86 : Cond.methodLink RL 86 yX10_spans ∈ LT := tb_in9 (i := 93) (by decide +kernel) (by decide +kernel)
theorem ml_L_87 : Cond.methodLink RL 87 yX9_span ∈ LT := tb_in4 (i := 217) (by decide +kernel) (by decide +kernel)
theorem ml_L_90 : Cond.methodLink RL 90 yX10_span ∈ LT := tb_in9 (i := 113) (by decide +kernel) (by decide +kernel)
theorem ml_L_91 : Cond.methodLink RL 91 yX9_pieces ∈ LT := tb_in4 (i := 221) (by decide +kernel) (by decide +kernel)
theorem ml_L_94 : Cond.methodLink RL 94 yX10_pieces ∈ LT := tb_in9 (i := 117) (by decide +kernel) (by decide +kernel)
theorem ml_L_95 : Cond.methodLink RL 95 yX9_piece ∈ LT := tb_in4 (i := 225) (by decide +kernel) (by decide +kernel)
theorem ml_L_98 : Cond.methodLink RL 98 yX10_piece ∈ LT := tb_in9 (i := 121) (by decide +kernel) (by decide +kernel)
theorem ml_L_99 : Cond.methodLink RL 99 yX9_share ∈ LT := tb_in4 (i := 229) (by decide +kernel) (by decide +kernel)
theorem ml_L_102 : Cond.methodLink RL 102 yX10_share ∈ LT := tb_in9 (i := 143) (by decide +kernel) (by decide +kernel)
theorem ml_L_103 : Cond.methodLink RL 103 yX9_part ∈ LT := tb_in5 (i := 1) (by decide +kernel) (by decide +kernel)
theorem ml_L_106 : Cond.methodLink RL 106 yX10_part ∈ LT := tb_in9 (i := 147) (by decide +kernel) (by decide +kernel)
theorem ml_L_107 : Cond.methodLink RL 107 yX9_leaves ∈ LT := tb_in5 (i := 15) (by decide +kernel) (by decide +kernel)
theorem ml_L_110 : Cond.methodLink RL 110 yX10_leaves ∈ LT := tb_in9 (i := 158) (by decide +kernel) (by decide +kernel)
theorem ml_L_111 : Cond.methodLink RL 111 yX9_make ∈ LT := tb_in5 (i := 23) (by decide +kernel) (by decide +kernel)
theorem ml_L_114 : Cond.methodLink RL 114 yX10_make ∈ LT := tb_in9 (i := 162) (by decide +kernel) (by decide +kernel)
theorem ml_L_115 : Cond.methodLink RL 115 yX9_stop ∈ LT := tb_in5 (i := 40) (by decide +kernel) (by decide +kernel)
theorem ml_L_119 : Cond.methodLink RL 119 yX10_stop ∈ LT := tb_in9 (i := 177) (by decide +kernel) (by decide +kernel)
theorem ml_L_120 : Cond.methodLink RL 120 yX9_wall ∈ LT := tb_in5 (i := 45) (by decide +kernel) (by decide +kernel)
theorem ml_L_124 : Cond.methodLink RL 124 yX10_wall ∈ LT := tb_in9 (i := 181) (by decide +kernel) (by decide +kernel)
theorem ml_L_125 : Cond.methodLink RL 125 yX9_sell ∈ LT := tb_in5 (i := 49) (by decide +kernel) (by decide +kernel)
theorem ml_L_129 : Cond.methodLink RL 129 yX10_sell ∈ LT := tb_in9 (i := 185) (by decide +kernel) (by decide +kernel)
theorem ml_L_130 : Cond.methodLink RL 130 yX9_go ∈ LT := tb_in5 (i := 59) (by decide +kernel) (by decide +kernel)
theorem ml_L_133 : Cond.methodLink RL 133 yX10_go ∈ LT := tb_in9 (i := 189) (by decide +kernel) (by decide +kernel)
theorem ml_L_134 : Cond.methodLink RL 134 yX9_plan ∈ LT := tb_in5 (i := 80) (by decide +kernel) (by decide +kernel)
theorem ml_L_137 : Cond.methodLink RL 137 yX10_plan ∈ LT := tb_in9 (i := 197) (by decide +kernel) (by decide +kernel)
theorem ml_L_138 : Cond.methodLink RL 138 yX9_planned ∈ LT := tb_in5 (i := 112) (by decide +kernel) (by decide +kernel)
theorem ml_L_141 : Cond.methodLink RL 141 yX10_planned ∈ LT := tb_in9 (i := 218) (by decide +kernel) (by decide +kernel)
theorem ml_L_142 : Cond.methodLink RL 142 yX9_walls ∈ LT := tb_in5 (i := 124) (by decide +kernel) (by decide +kernel)
theorem ml_L_145 : Cond.methodLink RL 145 yX10_walls ∈ LT := tb_in9 (i := 222) (by decide +kernel) (by decide +kernel)
theorem ml_L_146 : Cond.methodLink RL 146 yX9_bark ∈ LT := tb_in5 (i := 152) (by decide +kernel) (by decide +kernel)
theorem ml_L_149 : Cond.methodLink RL 149 yX10_bark ∈ LT := tb_in9 (i := 230) (by decide +kernel) (by decide +kernel)
theorem ml_L_150 : Cond.methodLink RL 150 yX9_note ∈ LT := tb_in5 (i := 172) (by decide +kernel) (by decide +kernel)
theorem ml_L_154 : Cond.methodLink RL 154 yX10_note ∈ LT := tb_in9 (i := 238) (by decide +kernel) (by decide +kernel)
theorem ml_L_155 : Cond.methodLink RL 155 yX9_strike ∈ LT := tb_in5 (i := 176) (by decide +kernel) (by decide +kernel)
theorem ml_L_158 : Cond.methodLink RL 158 yX10_strike ∈ LT := tb_in10 (i := 2) (by decide +kernel) (by decide +kernel)
theorem ml_L_159 : Cond.methodLink RL 159 yX9_known ∈ LT := tb_in5 (i := 180) (by decide +kernel) (by decide +kernel)
theorem ml_L_162 : Cond.methodLink RL 162 yX10_known ∈ LT := tb_in10 (i := 6) (by decide +kernel) (by decide +kernel)
theorem ml_L_163 : Cond.methodLink RL 163 yX9_thieves ∈ LT := tb_in5 (i := 184) (by decide +kernel) (by decide +kernel)
theorem ml_L_166 : Cond.methodLink RL 166 yX10_thieves ∈ LT := tb_in10 (i := 10) (by decide +kernel) (by decide +kernel)
theorem ml_L_167 : Cond.methodLink RL 167 yX9_thief ∈ LT := tb_in5 (i := 217) (by decide +kernel) (by decide +kernel)
theorem ml_L_170 : Cond.methodLink RL 170 yX10_thief ∈ LT := tb_in10 (i := 26) (by decide +kernel) (by decide +kernel)
theorem ml_L_171 : Cond.methodLink RL 171 yX9_left ∈ LT := tb_in5 (i := 221) (by decide +kernel) (by decide +kernel)
theorem ml_L_174 : Cond.methodLink RL 174 yX10_left ∈ LT := tb_in10 (i := 30) (by decide +kernel) (by decide +kernel)
theorem ml_L_175 : Cond.methodLink RL 175 yX9_rests ∈ LT := tb_in5 (i := 239) (by decide +kernel) (by decide +kernel)
theorem ml_L_179 : Cond.methodLink RL 179 yX10_rests ∈ LT := tb_in10 (i := 42) (by decide +kernel) (by decide +kernel)
theorem ml_L_180 : Cond.methodLink RL 180 yX9_rest ∈ LT := tb_in6 (i := 13) (by decide +kernel) (by decide +kernel)
theorem ml_L_184 : Cond.methodLink RL 184 yX10_rest ∈ LT := tb_in10 (i := 58) (by decide +kernel) (by decide +kernel)
theorem ml_L_185 : Cond.methodLink RL 185 yX9_year ∈ LT := tb_in6 (i := 17) (by decide +kernel) (by decide +kernel)
theorem ml_L_188 : Cond.methodLink RL 188 yX10_year ∈ LT := tb_in10 (i := 62) (by decide +kernel) (by decide +kernel)
theorem ml_L_189 : Cond.methodLink RL 189 yX9_tried ∈ LT := tb_in6 (i := 56) (by decide +kernel) (by decide +kernel)
theorem ml_L_192 : Cond.methodLink RL 192 yX10_tried ∈ LT := tb_in10 (i := 84) (by decide +kernel) (by decide +kernel)
theorem ml_L_193 : Cond.methodLink RL 193 yX9_undo ∈ LT := tb_in6 (i := 57) (by decide +kernel) (by decide +kernel)
theorem ml_L_196 : Cond.methodLink RL 196 yX10_undo ∈ LT := tb_in10 (i := 88) (by decide +kernel) (by decide +kernel)
theorem ml_L_197 : Cond.methodLink RL 197 yX9_keep ∈ LT := tb_in6 (i := 65) (by decide +kernel) (by decide +kernel)
theorem ml_L_200 : Cond.methodLink RL 200 yX10_keep ∈ LT := tb_in10 (i := 92) (by decide +kernel) (by decide +kernel)
theorem ml_L_201 : Cond.methodLink RL 201 yX9_back ∈ LT := tb_in6 (i := 69) (by decide +kernel) (by decide +kernel)
theorem ml_L_204 : Cond.methodLink RL 204 yX10_back ∈ LT := tb_in10 (i := 96) (by decide +kernel) (by decide +kernel)
theorem ml_L_205 : Cond.methodLink RL 205 yX9_count ∈ LT := tb_in6 (i := 73) (by decide +kernel) (by decide +kernel)
theorem ml_L_208 : Cond.methodLink RL 208 yX10_count ∈ LT := tb_in10 (i := 100) (by decide +kernel) (by decide +kernel)
section LCS
variable {Λ : LK} {n k : Nat} {hx hm : PH} {f : Nat → Int64}
theorem lc_feed (F : LF Λ) (hn : n + 6 ≤ Λ.L) (hk : k ≤ 599) (V : IV hx hm) (bot : ∀ (gx gm : PH) (f1 : Nat → Int64), IV gx gm → LW Λ n (k + 1) [] gx gm f1 1764 []) : LW Λ n k [] hx hm f 228 [] := by
  refine LW.ald1 F dL_law_228 ?_
  refine LW.arg 1 F hn (by decide) rfl dL_law_229 dL_law_230 dL_law_232 dL_law_233 dL_law_234 ?_
  refine LW.arg 2 F hn (by decide) rfl dL_law_235 dL_law_236 dL_law_238 dL_law_239 dL_law_240 ?_
  refine LW.arg 3 F hn (by decide) rfl dL_law_241 dL_law_242 dL_law_244 dL_law_245 dL_law_246 ?_
  refine LW.arg 4 F hn (by decide) rfl dL_law_247 dL_law_248 dL_law_250 dL_law_251 dL_law_252 ?_
  refine LW.arg 5 F hn (by decide) rfl dL_law_253 dL_law_254 dL_law_256 dL_law_257 dL_law_258 ?_
  obtain ⟨a, s1, hX, hM⟩ := c_feed (D := Λ.D) (ca := Λ.ca) (ax := adx Λ.B Λ.ac) (am := adm Λ.B Λ.ac) (l := Λ.l) V (Λ.xs (n + 1)) (Λ.xs (n + 2)) (Λ.xs (n + 3)) (Λ.xs (n + 4)) (Λ.xs (n + 5))
  refine LW.callXI [.int (Λ.xs (n + 1)), .int (Λ.xs (n + 2)), .int (Λ.xs (n + 3)), .int (Λ.xs (n + 4)), .int (Λ.xs (n + 5))] [] F (by omega) ms_X9_feed ml_L_21 dL_law_259 rfl ⟨_, _, rfl⟩ rfl (Nat.le_of_ble_eq_true rfl) (Nat.le_of_ble_eq_true rfl) hX (fun r g hr => ?_)
  obtain ⟨e1, I1⟩ := hr
  rw [e1]
  refine LW.ald2 F dL_law_262 ?_
  refine LW.arg 1 F hn (by decide) rfl dL_law_263 dL_law_264 dL_law_266 dL_law_267 dL_law_268 ?_
  refine LW.arg 2 F hn (by decide) rfl dL_law_269 dL_law_270 dL_law_272 dL_law_273 dL_law_274 ?_
  refine LW.arg 3 F hn (by decide) rfl dL_law_275 dL_law_276 dL_law_278 dL_law_279 dL_law_280 ?_
  refine LW.arg 4 F hn (by decide) rfl dL_law_281 dL_law_282 dL_law_284 dL_law_285 dL_law_286 ?_
  refine LW.arg 5 F hn (by decide) rfl dL_law_287 dL_law_288 dL_law_290 dL_law_291 dL_law_292 ?_
  refine LW.callMI [.int (Λ.xs (n + 1)), .int (Λ.xs (n + 2)), .int (Λ.xs (n + 3)), .int (Λ.xs (n + 4)), .int (Λ.xs (n + 5))] [.int a] F (by omega) ms_X10_feed ml_L_25 dL_law_293 rfl ⟨_, _, rfl⟩ rfl (Nat.le_of_ble_eq_true rfl) (Nat.le_of_ble_eq_true rfl) hM (fun r2 gm hr => ?_)
  obtain ⟨e2, J1⟩ := hr
  rw [e2]
  refine LW.ieq F dL_law_296 (tgt := 1764) (by decide) ?_
  exact LW.wid (Nat.le_succ k) (bot _ _ _ (XQ.iv I1 J1))
theorem lc_text (F : LF Λ) (hn : n + 6 ≤ Λ.L) (hk : k ≤ 599) (V : IV hx hm) (bot : ∀ (gx gm : PH) (f1 : Nat → Int64), IV gx gm → LW Λ n (k + 1) [] gx gm f1 1764 []) : LW Λ n k [] hx hm f 301 [] := by
  refine LW.ald1 F dL_law_301 ?_
  refine LW.arg 1 F hn (by decide) rfl dL_law_302 dL_law_303 dL_law_305 dL_law_306 dL_law_307 ?_
  obtain ⟨a, s1, hX, hM⟩ := c_text (D := Λ.D) (ca := Λ.ca) (ax := adx Λ.B Λ.ac) (am := adm Λ.B Λ.ac) (l := Λ.l) V (Λ.xs (n + 1))
  refine LW.callXI [.int (Λ.xs (n + 1))] [] F (by omega) ms_X9_text ml_L_26 dL_law_308 rfl ⟨_, _, rfl⟩ rfl (Nat.le_of_ble_eq_true rfl) (Nat.le_of_ble_eq_true rfl) hX (fun r g hr => ?_)
  obtain ⟨e1, I1⟩ := hr
  rw [e1]
  refine LW.ald2 F dL_law_311 ?_
  refine LW.arg 1 F hn (by decide) rfl dL_law_312 dL_law_313 dL_law_315 dL_law_316 dL_law_317 ?_
  refine LW.callMI [.int (Λ.xs (n + 1))] [.int a] F (by omega) ms_X10_text ml_L_30 dL_law_318 rfl ⟨_, _, rfl⟩ rfl (Nat.le_of_ble_eq_true rfl) (Nat.le_of_ble_eq_true rfl) hM (fun r2 gm hr => ?_)
  obtain ⟨e2, J1⟩ := hr
  rw [e2]
  refine LW.ieq F dL_law_321 (tgt := 1764) (by decide) ?_
  exact LW.wid (Nat.le_succ k) (bot _ _ _ (XQ.iv I1 J1))
theorem lc_fault (F : LF Λ) (hn : n + 6 ≤ Λ.L) (hk : k ≤ 599) (V : IV hx hm) (bot : ∀ (gx gm : PH) (f1 : Nat → Int64), IV gx gm → LW Λ n (k + 1) [] gx gm f1 1764 []) : LW Λ n k [] hx hm f 326 [] := by
  refine LW.ald1 F dL_law_326 ?_
  refine LW.arg 1 F hn (by decide) rfl dL_law_327 dL_law_328 dL_law_330 dL_law_331 dL_law_332 ?_
  obtain ⟨a, s1, hX, hM⟩ := c_fault (D := Λ.D) (ca := Λ.ca) (ax := adx Λ.B Λ.ac) (am := adm Λ.B Λ.ac) (l := Λ.l) V (Λ.xs (n + 1))
  refine LW.callXI [.int (Λ.xs (n + 1))] [] F (by omega) ms_X9_fault ml_L_31 dL_law_333 rfl ⟨_, _, rfl⟩ rfl (Nat.le_of_ble_eq_true rfl) (Nat.le_of_ble_eq_true rfl) hX (fun r g hr => ?_)
  obtain ⟨e1, I1⟩ := hr
  rw [e1]
  refine LW.ald2 F dL_law_336 ?_
  refine LW.arg 1 F hn (by decide) rfl dL_law_337 dL_law_338 dL_law_340 dL_law_341 dL_law_342 ?_
  refine LW.callMI [.int (Λ.xs (n + 1))] [.int a] F (by omega) ms_X10_fault ml_L_34 dL_law_343 rfl ⟨_, _, rfl⟩ rfl (Nat.le_of_ble_eq_true rfl) (Nat.le_of_ble_eq_true rfl) hM (fun r2 gm hr => ?_)
  obtain ⟨e2, J1⟩ := hr
  rw [e2]
  refine LW.ieq F dL_law_346 (tgt := 1764) (by decide) ?_
  exact LW.wid (Nat.le_succ k) (bot _ _ _ (XQ.iv I1 J1))
theorem lc_named (F : LF Λ) (hn : n + 6 ≤ Λ.L) (hk : k ≤ 599) (V : IV hx hm) (bot : ∀ (gx gm : PH) (f1 : Nat → Int64), IV gx gm → LW Λ n (k + 1) [] gx gm f1 1764 []) : LW Λ n k [] hx hm f 351 [] := by
  refine LW.ald1 F dL_law_351 ?_
  refine LW.arg 1 F hn (by decide) rfl dL_law_352 dL_law_353 dL_law_355 dL_law_356 dL_law_357 ?_
  refine LW.arg 2 F hn (by decide) rfl dL_law_358 dL_law_359 dL_law_361 dL_law_362 dL_law_363 ?_
  obtain ⟨a, s1, hX, hM⟩ := c_named (D := Λ.D) (ca := Λ.ca) (ax := adx Λ.B Λ.ac) (am := adm Λ.B Λ.ac) (l := Λ.l) V (Λ.xs (n + 1)) (Λ.xs (n + 2))
  refine LW.callXI [.int (Λ.xs (n + 1)), .int (Λ.xs (n + 2))] [] F (by omega) ms_X9_named ml_L_35 dL_law_364 rfl ⟨_, _, rfl⟩ rfl (Nat.le_of_ble_eq_true rfl) (Nat.le_of_ble_eq_true rfl) hX (fun r g hr => ?_)
  obtain ⟨e1, I1⟩ := hr
  rw [e1]
  refine LW.ald2 F dL_law_367 ?_
  refine LW.arg 1 F hn (by decide) rfl dL_law_368 dL_law_369 dL_law_371 dL_law_372 dL_law_373 ?_
  refine LW.arg 2 F hn (by decide) rfl dL_law_374 dL_law_375 dL_law_377 dL_law_378 dL_law_379 ?_
  refine LW.callMI [.int (Λ.xs (n + 1)), .int (Λ.xs (n + 2))] [.int a] F (by omega) ms_X10_named ml_L_38 dL_law_380 rfl ⟨_, _, rfl⟩ rfl (Nat.le_of_ble_eq_true rfl) (Nat.le_of_ble_eq_true rfl) hM (fun r2 gm hr => ?_)
  obtain ⟨e2, J1⟩ := hr
  rw [e2]
  refine LW.ieq F dL_law_383 (tgt := 1764) (by decide) ?_
  exact LW.wid (Nat.le_succ k) (bot _ _ _ (XQ.iv I1 J1))
theorem lc_noise (F : LF Λ) (hn : n + 6 ≤ Λ.L) (hk : k ≤ 599) (V : IV hx hm) (bot : ∀ (gx gm : PH) (f1 : Nat → Int64), IV gx gm → LW Λ n (k + 1) [] gx gm f1 1764 []) : LW Λ n k [] hx hm f 456 [] := by
  refine LW.ald1 F dL_law_456 ?_
  refine LW.arg 1 F hn (by decide) rfl dL_law_457 dL_law_458 dL_law_460 dL_law_461 dL_law_462 ?_
  refine LW.arg 2 F hn (by decide) rfl dL_law_463 dL_law_464 dL_law_466 dL_law_467 dL_law_468 ?_
  obtain ⟨a, s1, hX, hM⟩ := c_noise (D := Λ.D) (ca := Λ.ca) (ax := adx Λ.B Λ.ac) (am := adm Λ.B Λ.ac) (l := Λ.l) V (Λ.xs (n + 1)) (Λ.xs (n + 2))
  refine LW.callXI [.int (Λ.xs (n + 1)), .int (Λ.xs (n + 2))] [] F (by omega) ms_X9_noise ml_L_49 dL_law_469 rfl ⟨_, _, rfl⟩ rfl (Nat.le_of_ble_eq_true rfl) (Nat.le_of_ble_eq_true rfl) hX (fun r g hr => ?_)
  obtain ⟨e1, I1⟩ := hr
  rw [e1]
  refine LW.ald2 F dL_law_472 ?_
  refine LW.arg 1 F hn (by decide) rfl dL_law_473 dL_law_474 dL_law_476 dL_law_477 dL_law_478 ?_
  refine LW.arg 2 F hn (by decide) rfl dL_law_479 dL_law_480 dL_law_482 dL_law_483 dL_law_484 ?_
  refine LW.callMI [.int (Λ.xs (n + 1)), .int (Λ.xs (n + 2))] [.int a] F (by omega) ms_X10_noise ml_L_52 dL_law_485 rfl ⟨_, _, rfl⟩ rfl (Nat.le_of_ble_eq_true rfl) (Nat.le_of_ble_eq_true rfl) hM (fun r2 gm hr => ?_)
  obtain ⟨e2, J1⟩ := hr
  rw [e2]
  refine LW.ieq F dL_law_488 (tgt := 1764) (by decide) ?_
  exact LW.wid (Nat.le_succ k) (bot _ _ _ (XQ.iv I1 J1))
theorem lc_claim (F : LF Λ) (hn : n + 6 ≤ Λ.L) (hk : k ≤ 599) (V : IV hx hm) (bot : ∀ (gx gm : PH) (f1 : Nat → Int64), IV gx gm → LW Λ n (k + 1) [] gx gm f1 1764 []) : LW Λ n k [] hx hm f 493 [] := by
  refine LW.ald1 F dL_law_493 ?_
  refine LW.arg 1 F hn (by decide) rfl dL_law_494 dL_law_495 dL_law_497 dL_law_498 dL_law_499 ?_
  refine LW.arg 2 F hn (by decide) rfl dL_law_500 dL_law_501 dL_law_503 dL_law_504 dL_law_505 ?_
  obtain ⟨a, s1, hX, hM⟩ := c_claim (D := Λ.D) (ca := Λ.ca) (ax := adx Λ.B Λ.ac) (am := adm Λ.B Λ.ac) (l := Λ.l) V (Λ.xs (n + 1)) (Λ.xs (n + 2))
  refine LW.callXI [.int (Λ.xs (n + 1)), .int (Λ.xs (n + 2))] [] F (by omega) ms_X9_claim ml_L_53 dL_law_506 rfl ⟨_, _, rfl⟩ rfl (Nat.le_of_ble_eq_true rfl) (Nat.le_of_ble_eq_true rfl) hX (fun r g hr => ?_)
  obtain ⟨e1, I1⟩ := hr
  rw [e1]
  refine LW.ald2 F dL_law_509 ?_
  refine LW.arg 1 F hn (by decide) rfl dL_law_510 dL_law_511 dL_law_513 dL_law_514 dL_law_515 ?_
  refine LW.arg 2 F hn (by decide) rfl dL_law_516 dL_law_517 dL_law_519 dL_law_520 dL_law_521 ?_
  refine LW.callMI [.int (Λ.xs (n + 1)), .int (Λ.xs (n + 2))] [.int a] F (by omega) ms_X10_claim ml_L_56 dL_law_522 rfl ⟨_, _, rfl⟩ rfl (Nat.le_of_ble_eq_true rfl) (Nat.le_of_ble_eq_true rfl) hM (fun r2 gm hr => ?_)
  obtain ⟨e2, J1⟩ := hr
  rw [e2]
  refine LW.ieq F dL_law_525 (tgt := 1764) (by decide) ?_
  exact LW.wid (Nat.le_succ k) (bot _ _ _ (XQ.iv I1 J1))
theorem lc_link (F : LF Λ) (hn : n + 6 ≤ Λ.L) (hk : k ≤ 599) (V : IV hx hm) (bot : ∀ (gx gm : PH) (f1 : Nat → Int64), IV gx gm → LW Λ n (k + 1) [] gx gm f1 1764 []) : LW Λ n k [] hx hm f 530 [] := by
  refine LW.ald1 F dL_law_530 ?_
  refine LW.arg 1 F hn (by decide) rfl dL_law_531 dL_law_532 dL_law_534 dL_law_535 dL_law_536 ?_
  refine LW.arg 2 F hn (by decide) rfl dL_law_537 dL_law_538 dL_law_540 dL_law_541 dL_law_542 ?_
  obtain ⟨a, s1, hX, hM⟩ := c_link (D := Λ.D) (ca := Λ.ca) (ax := adx Λ.B Λ.ac) (am := adm Λ.B Λ.ac) (l := Λ.l) V (Λ.xs (n + 1)) (Λ.xs (n + 2))
  refine LW.callXI [.int (Λ.xs (n + 1)), .int (Λ.xs (n + 2))] [] F (by omega) ms_X9_link ml_L_57 dL_law_543 rfl ⟨_, _, rfl⟩ rfl (Nat.le_of_ble_eq_true rfl) (Nat.le_of_ble_eq_true rfl) hX (fun r g hr => ?_)
  obtain ⟨e1, I1⟩ := hr
  rw [e1]
  refine LW.ald2 F dL_law_546 ?_
  refine LW.arg 1 F hn (by decide) rfl dL_law_547 dL_law_548 dL_law_550 dL_law_551 dL_law_552 ?_
  refine LW.arg 2 F hn (by decide) rfl dL_law_553 dL_law_554 dL_law_556 dL_law_557 dL_law_558 ?_
  refine LW.callMI [.int (Λ.xs (n + 1)), .int (Λ.xs (n + 2))] [.int a] F (by omega) ms_X10_link ml_L_60 dL_law_559 rfl ⟨_, _, rfl⟩ rfl (Nat.le_of_ble_eq_true rfl) (Nat.le_of_ble_eq_true rfl) hM (fun r2 gm hr => ?_)
  obtain ⟨e2, J1⟩ := hr
  rw [e2]
  refine LW.ieq F dL_law_562 (tgt := 1764) (by decide) ?_
  exact LW.wid (Nat.le_succ k) (bot _ _ _ (XQ.iv I1 J1))
theorem lc_far (F : LF Λ) (hn : n + 6 ≤ Λ.L) (hk : k ≤ 599) (V : IV hx hm) (bot : ∀ (gx gm : PH) (f1 : Nat → Int64), IV gx gm → LW Λ n (k + 1) [] gx gm f1 1764 []) : LW Λ n k [] hx hm f 567 [] := by
  refine LW.ald1 F dL_law_567 ?_
  refine LW.arg 1 F hn (by decide) rfl dL_law_568 dL_law_569 dL_law_571 dL_law_572 dL_law_573 ?_
  refine LW.arg 2 F hn (by decide) rfl dL_law_574 dL_law_575 dL_law_577 dL_law_578 dL_law_579 ?_
  obtain ⟨a, s1, hX, hM⟩ := c_far (D := Λ.D) (ca := Λ.ca) (ax := adx Λ.B Λ.ac) (am := adm Λ.B Λ.ac) (l := Λ.l) V (Λ.xs (n + 1)) (Λ.xs (n + 2))
  refine LW.callXI [.int (Λ.xs (n + 1)), .int (Λ.xs (n + 2))] [] F (by omega) ms_X9_far ml_L_61 dL_law_580 rfl ⟨_, _, rfl⟩ rfl (Nat.le_of_ble_eq_true rfl) (Nat.le_of_ble_eq_true rfl) hX (fun r g hr => ?_)
  obtain ⟨e1, I1⟩ := hr
  rw [e1]
  refine LW.ald2 F dL_law_583 ?_
  refine LW.arg 1 F hn (by decide) rfl dL_law_584 dL_law_585 dL_law_587 dL_law_588 dL_law_589 ?_
  refine LW.arg 2 F hn (by decide) rfl dL_law_590 dL_law_591 dL_law_593 dL_law_594 dL_law_595 ?_
  refine LW.callMI [.int (Λ.xs (n + 1)), .int (Λ.xs (n + 2))] [.int a] F (by omega) ms_X10_far ml_L_64 dL_law_596 rfl ⟨_, _, rfl⟩ rfl (Nat.le_of_ble_eq_true rfl) (Nat.le_of_ble_eq_true rfl) hM (fun r2 gm hr => ?_)
  obtain ⟨e2, J1⟩ := hr
  rw [e2]
  refine LW.ieq F dL_law_599 (tgt := 1764) (by decide) ?_
  exact LW.wid (Nat.le_succ k) (bot _ _ _ (XQ.iv I1 J1))
theorem lc_law (F : LF Λ) (hn : n + 6 ≤ Λ.L) (hk : k ≤ 599) (V : IV hx hm) (bot : ∀ (gx gm : PH) (f1 : Nat → Int64), IV gx gm → LW Λ n (k + 1) [] gx gm f1 1764 []) : LW Λ n k [] hx hm f 604 [] := by
  refine LW.ald1 F dL_law_604 ?_
  refine LW.arg 1 F hn (by decide) rfl dL_law_605 dL_law_606 dL_law_608 dL_law_609 dL_law_610 ?_
  refine LW.arg 2 F hn (by decide) rfl dL_law_611 dL_law_612 dL_law_614 dL_law_615 dL_law_616 ?_
  refine LW.arg 3 F hn (by decide) rfl dL_law_617 dL_law_618 dL_law_620 dL_law_621 dL_law_622 ?_
  refine LW.arg 4 F hn (by decide) rfl dL_law_623 dL_law_624 dL_law_626 dL_law_627 dL_law_628 ?_
  obtain ⟨a, s1, hX, hM⟩ := c_law (D := Λ.D) (ca := Λ.ca) (ax := adx Λ.B Λ.ac) (am := adm Λ.B Λ.ac) (l := Λ.l) V (Λ.xs (n + 1)) (Λ.xs (n + 2)) (Λ.xs (n + 3)) (Λ.xs (n + 4))
  refine LW.callXJ [.int (Λ.xs (n + 1)), .int (Λ.xs (n + 2)), .int (Λ.xs (n + 3)), .int (Λ.xs (n + 4))] [] F (by omega) ms_X9_law ml_L_65 dL_law_629 rfl ⟨_, _, rfl⟩ rfl (Nat.le_of_ble_eq_true rfl) (Nat.le_of_ble_eq_true rfl) hX (fun r g hr => ?_)
  obtain ⟨e1, I1⟩ := hr
  rw [e1]
  refine LW.ald2 F dL_law_632 ?_
  refine LW.arg 1 F hn (by decide) rfl dL_law_633 dL_law_634 dL_law_636 dL_law_637 dL_law_638 ?_
  refine LW.arg 2 F hn (by decide) rfl dL_law_639 dL_law_640 dL_law_642 dL_law_643 dL_law_644 ?_
  refine LW.arg 3 F hn (by decide) rfl dL_law_645 dL_law_646 dL_law_648 dL_law_649 dL_law_650 ?_
  refine LW.arg 4 F hn (by decide) rfl dL_law_651 dL_law_652 dL_law_654 dL_law_655 dL_law_656 ?_
  refine LW.callMJ [.int (Λ.xs (n + 1)), .int (Λ.xs (n + 2)), .int (Λ.xs (n + 3)), .int (Λ.xs (n + 4))] [.long a] F (by omega) ms_X10_law ml_L_69 dL_law_657 rfl ⟨_, _, rfl⟩ rfl (Nat.le_of_ble_eq_true rfl) (Nat.le_of_ble_eq_true rfl) hM (fun r2 gm hr => ?_)
  obtain ⟨e2, J1⟩ := hr
  rw [e2]
  refine LW.leq F dL_law_660 dL_law_661 (tgt := 1764) (by decide) ?_
  exact LW.wid (Nat.le_succ k) (bot _ _ _ (XQ.iv I1 J1))
theorem lc_heard (F : LF Λ) (hn : n + 6 ≤ Λ.L) (hk : k ≤ 599) (V : IV hx hm) (bot : ∀ (gx gm : PH) (f1 : Nat → Int64), IV gx gm → LW Λ n (k + 1) [] gx gm f1 1764 []) : LW Λ n k [] hx hm f 666 [] := by
  refine LW.ald1 F dL_law_666 ?_
  refine LW.arg 1 F hn (by decide) rfl dL_law_667 dL_law_668 dL_law_670 dL_law_671 dL_law_672 ?_
  refine LW.arg 2 F hn (by decide) rfl dL_law_673 dL_law_674 dL_law_676 dL_law_677 dL_law_678 ?_
  obtain ⟨a, s1, hX, hM⟩ := c_heard (D := Λ.D) (ca := Λ.ca) (ax := adx Λ.B Λ.ac) (am := adm Λ.B Λ.ac) (l := Λ.l) V (Λ.xs (n + 1)) (Λ.xs (n + 2))
  refine LW.callXI [.int (Λ.xs (n + 1)), .int (Λ.xs (n + 2))] [] F (by omega) ms_X9_heard ml_L_70 dL_law_679 rfl ⟨_, _, rfl⟩ rfl (Nat.le_of_ble_eq_true rfl) (Nat.le_of_ble_eq_true rfl) hX (fun r g hr => ?_)
  obtain ⟨e1, I1⟩ := hr
  rw [e1]
  refine LW.ald2 F dL_law_682 ?_
  refine LW.arg 1 F hn (by decide) rfl dL_law_683 dL_law_684 dL_law_686 dL_law_687 dL_law_688 ?_
  refine LW.arg 2 F hn (by decide) rfl dL_law_689 dL_law_690 dL_law_692 dL_law_693 dL_law_694 ?_
  refine LW.callMI [.int (Λ.xs (n + 1)), .int (Λ.xs (n + 2))] [.int a] F (by omega) ms_X10_heard ml_L_73 dL_law_695 rfl ⟨_, _, rfl⟩ rfl (Nat.le_of_ble_eq_true rfl) (Nat.le_of_ble_eq_true rfl) hM (fun r2 gm hr => ?_)
  obtain ⟨e2, J1⟩ := hr
  rw [e2]
  refine LW.ieq F dL_law_698 (tgt := 1764) (by decide) ?_
  exact LW.wid (Nat.le_succ k) (bot _ _ _ (XQ.iv I1 J1))
theorem lc_hush (F : LF Λ) (hn : n + 6 ≤ Λ.L) (hk : k ≤ 599) (V : IV hx hm) (bot : ∀ (gx gm : PH) (f1 : Nat → Int64), IV gx gm → LW Λ n (k + 1) [] gx gm f1 1764 []) : LW Λ n k [] hx hm f 703 [] := by
  refine LW.ald1 F dL_law_703 ?_
  refine LW.arg 1 F hn (by decide) rfl dL_law_704 dL_law_705 dL_law_707 dL_law_708 dL_law_709 ?_
  obtain ⟨a, s1, hX, hM⟩ := c_hush (D := Λ.D) (ca := Λ.ca) (ax := adx Λ.B Λ.ac) (am := adm Λ.B Λ.ac) (l := Λ.l) V (Λ.xs (n + 1))
  refine LW.callXJ [.int (Λ.xs (n + 1))] [] F (by omega) ms_X9_hush ml_L_74 dL_law_710 rfl ⟨_, _, rfl⟩ rfl (Nat.le_of_ble_eq_true rfl) (Nat.le_of_ble_eq_true rfl) hX (fun r g hr => ?_)
  obtain ⟨e1, I1⟩ := hr
  rw [e1]
  refine LW.ald2 F dL_law_713 ?_
  refine LW.arg 1 F hn (by decide) rfl dL_law_714 dL_law_715 dL_law_717 dL_law_718 dL_law_719 ?_
  refine LW.callMJ [.int (Λ.xs (n + 1))] [.long a] F (by omega) ms_X10_hush ml_L_78 dL_law_720 rfl ⟨_, _, rfl⟩ rfl (Nat.le_of_ble_eq_true rfl) (Nat.le_of_ble_eq_true rfl) hM (fun r2 gm hr => ?_)
  obtain ⟨e2, J1⟩ := hr
  rw [e2]
  refine LW.leq F dL_law_723 dL_law_724 (tgt := 1764) (by decide) ?_
  exact LW.wid (Nat.le_succ k) (bot _ _ _ (XQ.iv I1 J1))
theorem lc_whose (F : LF Λ) (hn : n + 6 ≤ Λ.L) (hk : k ≤ 599) (V : IV hx hm) (bot : ∀ (gx gm : PH) (f1 : Nat → Int64), IV gx gm → LW Λ n (k + 1) [] gx gm f1 1764 []) : LW Λ n k [] hx hm f 729 [] := by
  refine LW.ald1 F dL_law_729 ?_
  refine LW.arg 1 F hn (by decide) rfl dL_law_730 dL_law_731 dL_law_733 dL_law_734 dL_law_735 ?_
  refine LW.arg 2 F hn (by decide) rfl dL_law_736 dL_law_737 dL_law_739 dL_law_740 dL_law_741 ?_
  obtain ⟨a, s1, hX, hM⟩ := c_whose (D := Λ.D) (ca := Λ.ca) (ax := adx Λ.B Λ.ac) (am := adm Λ.B Λ.ac) (l := Λ.l) V (Λ.xs (n + 1)) (Λ.xs (n + 2))
  refine LW.callXI [.int (Λ.xs (n + 1)), .int (Λ.xs (n + 2))] [] F (by omega) ms_X9_whose ml_L_79 dL_law_742 rfl ⟨_, _, rfl⟩ rfl (Nat.le_of_ble_eq_true rfl) (Nat.le_of_ble_eq_true rfl) hX (fun r g hr => ?_)
  obtain ⟨e1, I1⟩ := hr
  rw [e1]
  refine LW.ald2 F dL_law_745 ?_
  refine LW.arg 1 F hn (by decide) rfl dL_law_746 dL_law_747 dL_law_749 dL_law_750 dL_law_751 ?_
  refine LW.arg 2 F hn (by decide) rfl dL_law_752 dL_law_753 dL_law_755 dL_law_756 dL_law_757 ?_
  refine LW.callMI [.int (Λ.xs (n + 1)), .int (Λ.xs (n + 2))] [.int a] F (by omega) ms_X10_whose ml_L_82 dL_law_758 rfl ⟨_, _, rfl⟩ rfl (Nat.le_of_ble_eq_true rfl) (Nat.le_of_ble_eq_true rfl) hM (fun r2 gm hr => ?_)
  obtain ⟨e2, J1⟩ := hr
  rw [e2]
  refine LW.ieq F dL_law_761 (tgt := 1764) (by decide) ?_
  exact LW.wid (Nat.le_succ k) (bot _ _ _ (XQ.iv I1 J1))
theorem lc_spans (F : LF Λ) (hn : n + 6 ≤ Λ.L) (hk : k ≤ 599) (V : IV hx hm) (bot : ∀ (gx gm : PH) (f1 : Nat → Int64), IV gx gm → LW Λ n (k + 1) [] gx gm f1 1764 []) : LW Λ n k [] hx hm f 766 [] := by
  refine LW.ald1 F dL_law_766 ?_
  obtain ⟨a, s1, hX, hM⟩ := c_spans (D := Λ.D) (ca := Λ.ca) (ax := adx Λ.B Λ.ac) (am := adm Λ.B Λ.ac) (l := Λ.l) V
  refine LW.callXI [] [] F (by omega) ms_X9_spans ml_L_83 dL_law_767 rfl ⟨_, _, rfl⟩ rfl (Nat.le_of_ble_eq_true rfl) (Nat.le_of_ble_eq_true rfl) hX (fun r g hr => ?_)
  obtain ⟨e1, I1⟩ := hr
  rw [e1]
  refine LW.ald2 F dL_law_770 ?_
  refine LW.callMI [] [.int a] F (by omega) ms_X10_spans ml_L_86 dL_law_771 rfl ⟨_, _, rfl⟩ rfl (Nat.le_of_ble_eq_true rfl) (Nat.le_of_ble_eq_true rfl) hM (fun r2 gm hr => ?_)
  obtain ⟨e2, J1⟩ := hr
  rw [e2]
  refine LW.ieq F dL_law_774 (tgt := 1764) (by decide) ?_
  exact LW.wid (Nat.le_succ k) (bot _ _ _ (XQ.iv I1 J1))
theorem lc_span (F : LF Λ) (hn : n + 6 ≤ Λ.L) (hk : k ≤ 599) (V : IV hx hm) (bot : ∀ (gx gm : PH) (f1 : Nat → Int64), IV gx gm → LW Λ n (k + 1) [] gx gm f1 1764 []) : LW Λ n k [] hx hm f 779 [] := by
  refine LW.ald1 F dL_law_779 ?_
  refine LW.arg 1 F hn (by decide) rfl dL_law_780 dL_law_781 dL_law_783 dL_law_784 dL_law_785 ?_
  refine LW.arg 2 F hn (by decide) rfl dL_law_786 dL_law_787 dL_law_789 dL_law_790 dL_law_791 ?_
  obtain ⟨a, s1, hX, hM⟩ := c_span (D := Λ.D) (ca := Λ.ca) (ax := adx Λ.B Λ.ac) (am := adm Λ.B Λ.ac) (l := Λ.l) V (Λ.xs (n + 1)) (Λ.xs (n + 2))
  refine LW.callXI [.int (Λ.xs (n + 1)), .int (Λ.xs (n + 2))] [] F (by omega) ms_X9_span ml_L_87 dL_law_792 rfl ⟨_, _, rfl⟩ rfl (Nat.le_of_ble_eq_true rfl) (Nat.le_of_ble_eq_true rfl) hX (fun r g hr => ?_)
  obtain ⟨e1, I1⟩ := hr
  rw [e1]
  refine LW.ald2 F dL_law_795 ?_
  refine LW.arg 1 F hn (by decide) rfl dL_law_796 dL_law_797 dL_law_799 dL_law_800 dL_law_801 ?_
  refine LW.arg 2 F hn (by decide) rfl dL_law_802 dL_law_803 dL_law_805 dL_law_806 dL_law_807 ?_
  refine LW.callMI [.int (Λ.xs (n + 1)), .int (Λ.xs (n + 2))] [.int a] F (by omega) ms_X10_span ml_L_90 dL_law_808 rfl ⟨_, _, rfl⟩ rfl (Nat.le_of_ble_eq_true rfl) (Nat.le_of_ble_eq_true rfl) hM (fun r2 gm hr => ?_)
  obtain ⟨e2, J1⟩ := hr
  rw [e2]
  refine LW.ieq F dL_law_811 (tgt := 1764) (by decide) ?_
  exact LW.wid (Nat.le_succ k) (bot _ _ _ (XQ.iv I1 J1))
theorem lc_pieces (F : LF Λ) (hn : n + 6 ≤ Λ.L) (hk : k ≤ 599) (V : IV hx hm) (bot : ∀ (gx gm : PH) (f1 : Nat → Int64), IV gx gm → LW Λ n (k + 1) [] gx gm f1 1764 []) : LW Λ n k [] hx hm f 816 [] := by
  refine LW.ald1 F dL_law_816 ?_
  obtain ⟨a, s1, hX, hM⟩ := c_pieces (D := Λ.D) (ca := Λ.ca) (ax := adx Λ.B Λ.ac) (am := adm Λ.B Λ.ac) (l := Λ.l) V
  refine LW.callXI [] [] F (by omega) ms_X9_pieces ml_L_91 dL_law_817 rfl ⟨_, _, rfl⟩ rfl (Nat.le_of_ble_eq_true rfl) (Nat.le_of_ble_eq_true rfl) hX (fun r g hr => ?_)
  obtain ⟨e1, I1⟩ := hr
  rw [e1]
  refine LW.ald2 F dL_law_820 ?_
  refine LW.callMI [] [.int a] F (by omega) ms_X10_pieces ml_L_94 dL_law_821 rfl ⟨_, _, rfl⟩ rfl (Nat.le_of_ble_eq_true rfl) (Nat.le_of_ble_eq_true rfl) hM (fun r2 gm hr => ?_)
  obtain ⟨e2, J1⟩ := hr
  rw [e2]
  refine LW.ieq F dL_law_824 (tgt := 1764) (by decide) ?_
  exact LW.wid (Nat.le_succ k) (bot _ _ _ (XQ.iv I1 J1))
theorem lc_piece (F : LF Λ) (hn : n + 6 ≤ Λ.L) (hk : k ≤ 599) (V : IV hx hm) (bot : ∀ (gx gm : PH) (f1 : Nat → Int64), IV gx gm → LW Λ n (k + 1) [] gx gm f1 1764 []) : LW Λ n k [] hx hm f 829 [] := by
  refine LW.ald1 F dL_law_829 ?_
  refine LW.arg 1 F hn (by decide) rfl dL_law_830 dL_law_831 dL_law_833 dL_law_834 dL_law_835 ?_
  refine LW.arg 2 F hn (by decide) rfl dL_law_836 dL_law_837 dL_law_839 dL_law_840 dL_law_841 ?_
  obtain ⟨a, s1, hX, hM⟩ := c_piece (D := Λ.D) (ca := Λ.ca) (ax := adx Λ.B Λ.ac) (am := adm Λ.B Λ.ac) (l := Λ.l) V (Λ.xs (n + 1)) (Λ.xs (n + 2))
  refine LW.callXI [.int (Λ.xs (n + 1)), .int (Λ.xs (n + 2))] [] F (by omega) ms_X9_piece ml_L_95 dL_law_842 rfl ⟨_, _, rfl⟩ rfl (Nat.le_of_ble_eq_true rfl) (Nat.le_of_ble_eq_true rfl) hX (fun r g hr => ?_)
  obtain ⟨e1, I1⟩ := hr
  rw [e1]
  refine LW.ald2 F dL_law_845 ?_
  refine LW.arg 1 F hn (by decide) rfl dL_law_846 dL_law_847 dL_law_849 dL_law_850 dL_law_851 ?_
  refine LW.arg 2 F hn (by decide) rfl dL_law_852 dL_law_853 dL_law_855 dL_law_856 dL_law_857 ?_
  refine LW.callMI [.int (Λ.xs (n + 1)), .int (Λ.xs (n + 2))] [.int a] F (by omega) ms_X10_piece ml_L_98 dL_law_858 rfl ⟨_, _, rfl⟩ rfl (Nat.le_of_ble_eq_true rfl) (Nat.le_of_ble_eq_true rfl) hM (fun r2 gm hr => ?_)
  obtain ⟨e2, J1⟩ := hr
  rw [e2]
  refine LW.ieq F dL_law_861 (tgt := 1764) (by decide) ?_
  exact LW.wid (Nat.le_succ k) (bot _ _ _ (XQ.iv I1 J1))
theorem lc_share (F : LF Λ) (hn : n + 6 ≤ Λ.L) (hk : k ≤ 599) (V : IV hx hm) (bot : ∀ (gx gm : PH) (f1 : Nat → Int64), IV gx gm → LW Λ n (k + 1) [] gx gm f1 1764 []) : LW Λ n k [] hx hm f 866 [] := by
  refine LW.ald1 F dL_law_866 ?_
  refine LW.arg 1 F hn (by decide) rfl dL_law_867 dL_law_868 dL_law_870 dL_law_871 dL_law_872 ?_
  refine LW.arg 2 F hn (by decide) rfl dL_law_873 dL_law_874 dL_law_876 dL_law_877 dL_law_878 ?_
  obtain ⟨a, s1, hX, hM⟩ := c_share (D := Λ.D) (ca := Λ.ca) (ax := adx Λ.B Λ.ac) (am := adm Λ.B Λ.ac) (l := Λ.l) V (Λ.xs (n + 1)) (Λ.xs (n + 2))
  refine LW.callXI [.int (Λ.xs (n + 1)), .int (Λ.xs (n + 2))] [] F (by omega) ms_X9_share ml_L_99 dL_law_879 rfl ⟨_, _, rfl⟩ rfl (Nat.le_of_ble_eq_true rfl) (Nat.le_of_ble_eq_true rfl) hX (fun r g hr => ?_)
  obtain ⟨e1, I1⟩ := hr
  rw [e1]
  refine LW.ald2 F dL_law_882 ?_
  refine LW.arg 1 F hn (by decide) rfl dL_law_883 dL_law_884 dL_law_886 dL_law_887 dL_law_888 ?_
  refine LW.arg 2 F hn (by decide) rfl dL_law_889 dL_law_890 dL_law_892 dL_law_893 dL_law_894 ?_
  refine LW.callMI [.int (Λ.xs (n + 1)), .int (Λ.xs (n + 2))] [.int a] F (by omega) ms_X10_share ml_L_102 dL_law_895 rfl ⟨_, _, rfl⟩ rfl (Nat.le_of_ble_eq_true rfl) (Nat.le_of_ble_eq_true rfl) hM (fun r2 gm hr => ?_)
  obtain ⟨e2, J1⟩ := hr
  rw [e2]
  refine LW.ieq F dL_law_898 (tgt := 1764) (by decide) ?_
  exact LW.wid (Nat.le_succ k) (bot _ _ _ (XQ.iv I1 J1))
theorem lc_part (F : LF Λ) (hn : n + 6 ≤ Λ.L) (hk : k ≤ 599) (V : IV hx hm) (bot : ∀ (gx gm : PH) (f1 : Nat → Int64), IV gx gm → LW Λ n (k + 1) [] gx gm f1 1764 []) : LW Λ n k [] hx hm f 903 [] := by
  refine LW.ald1 F dL_law_903 ?_
  refine LW.arg 1 F hn (by decide) rfl dL_law_904 dL_law_905 dL_law_907 dL_law_908 dL_law_909 ?_
  refine LW.arg 2 F hn (by decide) rfl dL_law_910 dL_law_911 dL_law_913 dL_law_914 dL_law_915 ?_
  obtain ⟨a, s1, hX, hM⟩ := c_part (D := Λ.D) (ca := Λ.ca) (ax := adx Λ.B Λ.ac) (am := adm Λ.B Λ.ac) (l := Λ.l) V (Λ.xs (n + 1)) (Λ.xs (n + 2))
  refine LW.callXI [.int (Λ.xs (n + 1)), .int (Λ.xs (n + 2))] [] F (by omega) ms_X9_part ml_L_103 dL_law_916 rfl ⟨_, _, rfl⟩ rfl (Nat.le_of_ble_eq_true rfl) (Nat.le_of_ble_eq_true rfl) hX (fun r g hr => ?_)
  obtain ⟨e1, I1⟩ := hr
  rw [e1]
  refine LW.ald2 F dL_law_919 ?_
  refine LW.arg 1 F hn (by decide) rfl dL_law_920 dL_law_921 dL_law_923 dL_law_924 dL_law_925 ?_
  refine LW.arg 2 F hn (by decide) rfl dL_law_926 dL_law_927 dL_law_929 dL_law_930 dL_law_931 ?_
  refine LW.callMI [.int (Λ.xs (n + 1)), .int (Λ.xs (n + 2))] [.int a] F (by omega) ms_X10_part ml_L_106 dL_law_932 rfl ⟨_, _, rfl⟩ rfl (Nat.le_of_ble_eq_true rfl) (Nat.le_of_ble_eq_true rfl) hM (fun r2 gm hr => ?_)
  obtain ⟨e2, J1⟩ := hr
  rw [e2]
  refine LW.ieq F dL_law_935 (tgt := 1764) (by decide) ?_
  exact LW.wid (Nat.le_succ k) (bot _ _ _ (XQ.iv I1 J1))
theorem lc_leaves (F : LF Λ) (hn : n + 6 ≤ Λ.L) (hk : k ≤ 599) (V : IV hx hm) (bot : ∀ (gx gm : PH) (f1 : Nat → Int64), IV gx gm → LW Λ n (k + 1) [] gx gm f1 1764 []) : LW Λ n k [] hx hm f 940 [] := by
  refine LW.ald1 F dL_law_940 ?_
  refine LW.arg 1 F hn (by decide) rfl dL_law_941 dL_law_942 dL_law_944 dL_law_945 dL_law_946 ?_
  obtain ⟨a, s1, hX, hM⟩ := c_leaves (D := Λ.D) (ca := Λ.ca) (ax := adx Λ.B Λ.ac) (am := adm Λ.B Λ.ac) (l := Λ.l) V (Λ.xs (n + 1))
  refine LW.callXI [.int (Λ.xs (n + 1))] [] F (by omega) ms_X9_leaves ml_L_107 dL_law_947 rfl ⟨_, _, rfl⟩ rfl (Nat.le_of_ble_eq_true rfl) (Nat.le_of_ble_eq_true rfl) hX (fun r g hr => ?_)
  obtain ⟨e1, I1⟩ := hr
  rw [e1]
  refine LW.ald2 F dL_law_950 ?_
  refine LW.arg 1 F hn (by decide) rfl dL_law_951 dL_law_952 dL_law_954 dL_law_955 dL_law_956 ?_
  refine LW.callMI [.int (Λ.xs (n + 1))] [.int a] F (by omega) ms_X10_leaves ml_L_110 dL_law_957 rfl ⟨_, _, rfl⟩ rfl (Nat.le_of_ble_eq_true rfl) (Nat.le_of_ble_eq_true rfl) hM (fun r2 gm hr => ?_)
  obtain ⟨e2, J1⟩ := hr
  rw [e2]
  refine LW.ieq F dL_law_960 (tgt := 1764) (by decide) ?_
  exact LW.wid (Nat.le_succ k) (bot _ _ _ (XQ.iv I1 J1))
theorem lc_make (F : LF Λ) (hn : n + 6 ≤ Λ.L) (hk : k ≤ 599) (V : IV hx hm) (bot : ∀ (gx gm : PH) (f1 : Nat → Int64), IV gx gm → LW Λ n (k + 1) [] gx gm f1 1764 []) : LW Λ n k [] hx hm f 965 [] := by
  refine LW.ald1 F dL_law_965 ?_
  refine LW.arg 1 F hn (by decide) rfl dL_law_966 dL_law_967 dL_law_969 dL_law_970 dL_law_971 ?_
  refine LW.arg 2 F hn (by decide) rfl dL_law_972 dL_law_973 dL_law_975 dL_law_976 dL_law_977 ?_
  refine LW.arg 3 F hn (by decide) rfl dL_law_978 dL_law_979 dL_law_981 dL_law_982 dL_law_983 ?_
  refine LW.arg 4 F hn (by decide) rfl dL_law_984 dL_law_985 dL_law_987 dL_law_988 dL_law_989 ?_
  refine LW.arg 5 F hn (by decide) rfl dL_law_990 dL_law_991 dL_law_993 dL_law_994 dL_law_995 ?_
  obtain ⟨a, s1, hX, hM⟩ := c_make (D := Λ.D) (ca := Λ.ca) (ax := adx Λ.B Λ.ac) (am := adm Λ.B Λ.ac) (l := Λ.l) V (Λ.xs (n + 1)) (Λ.xs (n + 2)) (Λ.xs (n + 3)) (Λ.xs (n + 4)) (Λ.xs (n + 5))
  refine LW.callXI [.int (Λ.xs (n + 1)), .int (Λ.xs (n + 2)), .int (Λ.xs (n + 3)), .int (Λ.xs (n + 4)), .int (Λ.xs (n + 5))] [] F (by omega) ms_X9_make ml_L_111 dL_law_996 rfl ⟨_, _, rfl⟩ rfl (Nat.le_of_ble_eq_true rfl) (Nat.le_of_ble_eq_true rfl) hX (fun r g hr => ?_)
  obtain ⟨e1, I1⟩ := hr
  rw [e1]
  refine LW.ald2 F dL_law_999 ?_
  refine LW.arg 1 F hn (by decide) rfl dL_law_1000 dL_law_1001 dL_law_1003 dL_law_1004 dL_law_1005 ?_
  refine LW.arg 2 F hn (by decide) rfl dL_law_1006 dL_law_1007 dL_law_1009 dL_law_1010 dL_law_1011 ?_
  refine LW.arg 3 F hn (by decide) rfl dL_law_1012 dL_law_1013 dL_law_1015 dL_law_1016 dL_law_1017 ?_
  refine LW.arg 4 F hn (by decide) rfl dL_law_1018 dL_law_1019 dL_law_1021 dL_law_1022 dL_law_1023 ?_
  refine LW.arg 5 F hn (by decide) rfl dL_law_1024 dL_law_1025 dL_law_1027 dL_law_1028 dL_law_1029 ?_
  refine LW.callMI [.int (Λ.xs (n + 1)), .int (Λ.xs (n + 2)), .int (Λ.xs (n + 3)), .int (Λ.xs (n + 4)), .int (Λ.xs (n + 5))] [.int a] F (by omega) ms_X10_make ml_L_114 dL_law_1030 rfl ⟨_, _, rfl⟩ rfl (Nat.le_of_ble_eq_true rfl) (Nat.le_of_ble_eq_true rfl) hM (fun r2 gm hr => ?_)
  obtain ⟨e2, J1⟩ := hr
  rw [e2]
  refine LW.ieq F dL_law_1033 (tgt := 1764) (by decide) ?_
  exact LW.wid (Nat.le_succ k) (bot _ _ _ (XQ.iv I1 J1))
theorem lc_stop (F : LF Λ) (hn : n + 6 ≤ Λ.L) (hk : k ≤ 599) (V : IV hx hm) (bot : ∀ (gx gm : PH) (f1 : Nat → Int64), IV gx gm → LW Λ n (k + 1) [] gx gm f1 1764 []) : LW Λ n k [] hx hm f 1038 [] := by
  refine LW.ald1 F dL_law_1038 ?_
  refine LW.arg 1 F hn (by decide) rfl dL_law_1039 dL_law_1040 dL_law_1042 dL_law_1043 dL_law_1044 ?_
  obtain ⟨a, s1, hX, hM⟩ := c_stop (D := Λ.D) (ca := Λ.ca) (ax := adx Λ.B Λ.ac) (am := adm Λ.B Λ.ac) (l := Λ.l) V (Λ.xs (n + 1))
  refine LW.callXI [.int (Λ.xs (n + 1))] [] F (by omega) ms_X9_stop ml_L_115 dL_law_1045 rfl ⟨_, _, rfl⟩ rfl (Nat.le_of_ble_eq_true rfl) (Nat.le_of_ble_eq_true rfl) hX (fun r g hr => ?_)
  obtain ⟨e1, I1⟩ := hr
  rw [e1]
  refine LW.ald2 F dL_law_1048 ?_
  refine LW.arg 1 F hn (by decide) rfl dL_law_1049 dL_law_1050 dL_law_1052 dL_law_1053 dL_law_1054 ?_
  refine LW.callMI [.int (Λ.xs (n + 1))] [.int a] F (by omega) ms_X10_stop ml_L_119 dL_law_1055 rfl ⟨_, _, rfl⟩ rfl (Nat.le_of_ble_eq_true rfl) (Nat.le_of_ble_eq_true rfl) hM (fun r2 gm hr => ?_)
  obtain ⟨e2, J1⟩ := hr
  rw [e2]
  refine LW.ieq F dL_law_1058 (tgt := 1764) (by decide) ?_
  exact LW.wid (Nat.le_succ k) (bot _ _ _ (XQ.iv I1 J1))
theorem lc_wall (F : LF Λ) (hn : n + 6 ≤ Λ.L) (hk : k ≤ 599) (V : IV hx hm) (bot : ∀ (gx gm : PH) (f1 : Nat → Int64), IV gx gm → LW Λ n (k + 1) [] gx gm f1 1764 []) : LW Λ n k [] hx hm f 1063 [] := by
  refine LW.ald1 F dL_law_1063 ?_
  refine LW.arg 1 F hn (by decide) rfl dL_law_1064 dL_law_1065 dL_law_1067 dL_law_1068 dL_law_1069 ?_
  refine LW.arg 2 F hn (by decide) rfl dL_law_1070 dL_law_1071 dL_law_1073 dL_law_1074 dL_law_1075 ?_
  refine LW.bool F dL_law_1076 dL_law_1079 dL_law_1080 dL_law_1083 ?_
  obtain ⟨a, s1, hX, hM⟩ := c_wall (D := Λ.D) (ca := Λ.ca) (ax := adx Λ.B Λ.ac) (am := adm Λ.B Λ.ac) (l := Λ.l) V (Λ.xs (n + 1)) (Λ.xs (n + 2))
  refine LW.callXI [.int (Λ.xs (n + 1)), .int (bz (Λ.xs (n + 2)))] [] F (by omega) ms_X9_wall ml_L_120 dL_law_1084 rfl ⟨_, _, rfl⟩ rfl (Nat.le_of_ble_eq_true rfl) (Nat.le_of_ble_eq_true rfl) hX (fun r g hr => ?_)
  obtain ⟨e1, I1⟩ := hr
  rw [e1]
  refine LW.ald2 F dL_law_1087 ?_
  refine LW.arg 1 F hn (by decide) rfl dL_law_1088 dL_law_1089 dL_law_1091 dL_law_1092 dL_law_1093 ?_
  refine LW.arg 2 F hn (by decide) rfl dL_law_1094 dL_law_1095 dL_law_1097 dL_law_1098 dL_law_1099 ?_
  refine LW.bool F dL_law_1100 dL_law_1103 dL_law_1104 dL_law_1107 ?_
  refine LW.callMI [.int (Λ.xs (n + 1)), .int (bz (Λ.xs (n + 2)))] [.int a] F (by omega) ms_X10_wall ml_L_124 dL_law_1108 rfl ⟨_, _, rfl⟩ rfl (Nat.le_of_ble_eq_true rfl) (Nat.le_of_ble_eq_true rfl) hM (fun r2 gm hr => ?_)
  obtain ⟨e2, J1⟩ := hr
  rw [e2]
  refine LW.ieq F dL_law_1111 (tgt := 1764) (by decide) ?_
  exact LW.wid (Nat.le_succ k) (bot _ _ _ (XQ.iv I1 J1))
theorem lc_sell (F : LF Λ) (hn : n + 6 ≤ Λ.L) (hk : k ≤ 599) (V : IV hx hm) (bot : ∀ (gx gm : PH) (f1 : Nat → Int64), IV gx gm → LW Λ n (k + 1) [] gx gm f1 1764 []) : LW Λ n k [] hx hm f 1116 [] := by
  refine LW.ald1 F dL_law_1116 ?_
  refine LW.arg 1 F hn (by decide) rfl dL_law_1117 dL_law_1118 dL_law_1120 dL_law_1121 dL_law_1122 ?_
  refine LW.arg 2 F hn (by decide) rfl dL_law_1123 dL_law_1124 dL_law_1126 dL_law_1127 dL_law_1128 ?_
  refine LW.arg 3 F hn (by decide) rfl dL_law_1129 dL_law_1130 dL_law_1132 dL_law_1133 dL_law_1134 ?_
  obtain ⟨a, s1, hX, hM⟩ := c_sell (D := Λ.D) (ca := Λ.ca) (ax := adx Λ.B Λ.ac) (am := adm Λ.B Λ.ac) (l := Λ.l) V (Λ.xs (n + 1)) (Λ.xs (n + 2)) (Λ.xs (n + 3))
  refine LW.callXI [.int (Λ.xs (n + 1)), .int (Λ.xs (n + 2)), .int (Λ.xs (n + 3))] [] F (by omega) ms_X9_sell ml_L_125 dL_law_1135 rfl ⟨_, _, rfl⟩ rfl (Nat.le_of_ble_eq_true rfl) (Nat.le_of_ble_eq_true rfl) hX (fun r g hr => ?_)
  obtain ⟨e1, I1⟩ := hr
  rw [e1]
  refine LW.ald2 F dL_law_1138 ?_
  refine LW.arg 1 F hn (by decide) rfl dL_law_1139 dL_law_1140 dL_law_1142 dL_law_1143 dL_law_1144 ?_
  refine LW.arg 2 F hn (by decide) rfl dL_law_1145 dL_law_1146 dL_law_1148 dL_law_1149 dL_law_1150 ?_
  refine LW.arg 3 F hn (by decide) rfl dL_law_1151 dL_law_1152 dL_law_1154 dL_law_1155 dL_law_1156 ?_
  refine LW.callMI [.int (Λ.xs (n + 1)), .int (Λ.xs (n + 2)), .int (Λ.xs (n + 3))] [.int a] F (by omega) ms_X10_sell ml_L_129 dL_law_1157 rfl ⟨_, _, rfl⟩ rfl (Nat.le_of_ble_eq_true rfl) (Nat.le_of_ble_eq_true rfl) hM (fun r2 gm hr => ?_)
  obtain ⟨e2, J1⟩ := hr
  rw [e2]
  refine LW.ieq F dL_law_1160 (tgt := 1764) (by decide) ?_
  exact LW.wid (Nat.le_succ k) (bot _ _ _ (XQ.iv I1 J1))
theorem lc_go (F : LF Λ) (hn : n + 6 ≤ Λ.L) (hk : k ≤ 599) (V : IV hx hm) (bot : ∀ (gx gm : PH) (f1 : Nat → Int64), IV gx gm → LW Λ n (k + 1) [] gx gm f1 1764 []) : LW Λ n k [] hx hm f 1165 [] := by
  refine LW.ald1 F dL_law_1165 ?_
  refine LW.arg 1 F hn (by decide) rfl dL_law_1166 dL_law_1167 dL_law_1169 dL_law_1170 dL_law_1171 ?_
  obtain ⟨a, s1, hX, hM⟩ := c_go (D := Λ.D) (ca := Λ.ca) (ax := adx Λ.B Λ.ac) (am := adm Λ.B Λ.ac) (l := Λ.l) V (Λ.xs (n + 1))
  refine LW.callXI [.int (Λ.xs (n + 1))] [] F (by omega) ms_X9_go ml_L_130 dL_law_1172 rfl ⟨_, _, rfl⟩ rfl (Nat.le_of_ble_eq_true rfl) (Nat.le_of_ble_eq_true rfl) hX (fun r g hr => ?_)
  obtain ⟨e1, I1⟩ := hr
  rw [e1]
  refine LW.ald2 F dL_law_1175 ?_
  refine LW.arg 1 F hn (by decide) rfl dL_law_1176 dL_law_1177 dL_law_1179 dL_law_1180 dL_law_1181 ?_
  refine LW.callMI [.int (Λ.xs (n + 1))] [.int a] F (by omega) ms_X10_go ml_L_133 dL_law_1182 rfl ⟨_, _, rfl⟩ rfl (Nat.le_of_ble_eq_true rfl) (Nat.le_of_ble_eq_true rfl) hM (fun r2 gm hr => ?_)
  obtain ⟨e2, J1⟩ := hr
  rw [e2]
  refine LW.ieq F dL_law_1185 (tgt := 1764) (by decide) ?_
  exact LW.wid (Nat.le_succ k) (bot _ _ _ (XQ.iv I1 J1))
theorem lc_plan (F : LF Λ) (hn : n + 6 ≤ Λ.L) (hk : k ≤ 599) (V : IV hx hm) (bot : ∀ (gx gm : PH) (f1 : Nat → Int64), IV gx gm → LW Λ n (k + 1) [] gx gm f1 1764 []) : LW Λ n k [] hx hm f 1190 [] := by
  refine LW.ald1 F dL_law_1190 ?_
  obtain ⟨a, s1, hX, hM⟩ := c_plan (D := Λ.D) (ca := Λ.ca) (ax := adx Λ.B Λ.ac) (am := adm Λ.B Λ.ac) (l := Λ.l) V
  refine LW.callXI [] [] F (by omega) ms_X9_plan ml_L_134 dL_law_1191 rfl ⟨_, _, rfl⟩ rfl (Nat.le_of_ble_eq_true rfl) (Nat.le_of_ble_eq_true rfl) hX (fun r g hr => ?_)
  obtain ⟨e1, I1⟩ := hr
  rw [e1]
  refine LW.ald2 F dL_law_1194 ?_
  refine LW.callMI [] [.int a] F (by omega) ms_X10_plan ml_L_137 dL_law_1195 rfl ⟨_, _, rfl⟩ rfl (Nat.le_of_ble_eq_true rfl) (Nat.le_of_ble_eq_true rfl) hM (fun r2 gm hr => ?_)
  obtain ⟨e2, J1⟩ := hr
  rw [e2]
  refine LW.ieq F dL_law_1198 (tgt := 1764) (by decide) ?_
  exact LW.wid (Nat.le_succ k) (bot _ _ _ (XQ.iv I1 J1))
theorem lc_planned (F : LF Λ) (hn : n + 6 ≤ Λ.L) (hk : k ≤ 599) (V : IV hx hm) (bot : ∀ (gx gm : PH) (f1 : Nat → Int64), IV gx gm → LW Λ n (k + 1) [] gx gm f1 1764 []) : LW Λ n k [] hx hm f 1203 [] := by
  refine LW.ald1 F dL_law_1203 ?_
  refine LW.arg 1 F hn (by decide) rfl dL_law_1204 dL_law_1205 dL_law_1207 dL_law_1208 dL_law_1209 ?_
  refine LW.arg 2 F hn (by decide) rfl dL_law_1210 dL_law_1211 dL_law_1213 dL_law_1214 dL_law_1215 ?_
  obtain ⟨a, s1, hX, hM⟩ := c_planned (D := Λ.D) (ca := Λ.ca) (ax := adx Λ.B Λ.ac) (am := adm Λ.B Λ.ac) (l := Λ.l) V (Λ.xs (n + 1)) (Λ.xs (n + 2))
  refine LW.callXI [.int (Λ.xs (n + 1)), .int (Λ.xs (n + 2))] [] F (by omega) ms_X9_planned ml_L_138 dL_law_1216 rfl ⟨_, _, rfl⟩ rfl (Nat.le_of_ble_eq_true rfl) (Nat.le_of_ble_eq_true rfl) hX (fun r g hr => ?_)
  obtain ⟨e1, I1⟩ := hr
  rw [e1]
  refine LW.ald2 F dL_law_1219 ?_
  refine LW.arg 1 F hn (by decide) rfl dL_law_1220 dL_law_1221 dL_law_1223 dL_law_1224 dL_law_1225 ?_
  refine LW.arg 2 F hn (by decide) rfl dL_law_1226 dL_law_1227 dL_law_1229 dL_law_1230 dL_law_1231 ?_
  refine LW.callMI [.int (Λ.xs (n + 1)), .int (Λ.xs (n + 2))] [.int a] F (by omega) ms_X10_planned ml_L_141 dL_law_1232 rfl ⟨_, _, rfl⟩ rfl (Nat.le_of_ble_eq_true rfl) (Nat.le_of_ble_eq_true rfl) hM (fun r2 gm hr => ?_)
  obtain ⟨e2, J1⟩ := hr
  rw [e2]
  refine LW.ieq F dL_law_1235 (tgt := 1764) (by decide) ?_
  exact LW.wid (Nat.le_succ k) (bot _ _ _ (XQ.iv I1 J1))
theorem lc_walls (F : LF Λ) (hn : n + 6 ≤ Λ.L) (hk : k ≤ 599) (V : IV hx hm) (bot : ∀ (gx gm : PH) (f1 : Nat → Int64), IV gx gm → LW Λ n (k + 1) [] gx gm f1 1764 []) : LW Λ n k [] hx hm f 1240 [] := by
  refine LW.ald1 F dL_law_1240 ?_
  refine LW.arg 1 F hn (by decide) rfl dL_law_1241 dL_law_1242 dL_law_1244 dL_law_1245 dL_law_1246 ?_
  refine LW.arg 2 F hn (by decide) rfl dL_law_1247 dL_law_1248 dL_law_1250 dL_law_1251 dL_law_1252 ?_
  obtain ⟨a, s1, hX, hM⟩ := c_walls (D := Λ.D) (ca := Λ.ca) (ax := adx Λ.B Λ.ac) (am := adm Λ.B Λ.ac) (l := Λ.l) V (Λ.xs (n + 1)) (Λ.xs (n + 2))
  refine LW.callXI [.int (Λ.xs (n + 1)), .int (Λ.xs (n + 2))] [] F (by omega) ms_X9_walls ml_L_142 dL_law_1253 rfl ⟨_, _, rfl⟩ rfl (Nat.le_of_ble_eq_true rfl) (Nat.le_of_ble_eq_true rfl) hX (fun r g hr => ?_)
  obtain ⟨e1, I1⟩ := hr
  rw [e1]
  refine LW.ald2 F dL_law_1256 ?_
  refine LW.arg 1 F hn (by decide) rfl dL_law_1257 dL_law_1258 dL_law_1260 dL_law_1261 dL_law_1262 ?_
  refine LW.arg 2 F hn (by decide) rfl dL_law_1263 dL_law_1264 dL_law_1266 dL_law_1267 dL_law_1268 ?_
  refine LW.callMI [.int (Λ.xs (n + 1)), .int (Λ.xs (n + 2))] [.int a] F (by omega) ms_X10_walls ml_L_145 dL_law_1269 rfl ⟨_, _, rfl⟩ rfl (Nat.le_of_ble_eq_true rfl) (Nat.le_of_ble_eq_true rfl) hM (fun r2 gm hr => ?_)
  obtain ⟨e2, J1⟩ := hr
  rw [e2]
  refine LW.ieq F dL_law_1272 (tgt := 1764) (by decide) ?_
  exact LW.wid (Nat.le_succ k) (bot _ _ _ (XQ.iv I1 J1))
theorem lc_bark (F : LF Λ) (hn : n + 6 ≤ Λ.L) (hk : k ≤ 599) (V : IV hx hm) (bot : ∀ (gx gm : PH) (f1 : Nat → Int64), IV gx gm → LW Λ n (k + 1) [] gx gm f1 1764 []) : LW Λ n k [] hx hm f 1277 [] := by
  refine LW.ald1 F dL_law_1277 ?_
  refine LW.arg 1 F hn (by decide) rfl dL_law_1278 dL_law_1279 dL_law_1281 dL_law_1282 dL_law_1283 ?_
  refine LW.arg 2 F hn (by decide) rfl dL_law_1284 dL_law_1285 dL_law_1287 dL_law_1288 dL_law_1289 ?_
  obtain ⟨a, s1, hX, hM⟩ := c_bark (D := Λ.D) (ca := Λ.ca) (ax := adx Λ.B Λ.ac) (am := adm Λ.B Λ.ac) (l := Λ.l) V (Λ.xs (n + 1)) (Λ.xs (n + 2))
  refine LW.callXI [.int (Λ.xs (n + 1)), .int (Λ.xs (n + 2))] [] F (by omega) ms_X9_bark ml_L_146 dL_law_1290 rfl ⟨_, _, rfl⟩ rfl (Nat.le_of_ble_eq_true rfl) (Nat.le_of_ble_eq_true rfl) hX (fun r g hr => ?_)
  obtain ⟨e1, I1⟩ := hr
  rw [e1]
  refine LW.ald2 F dL_law_1293 ?_
  refine LW.arg 1 F hn (by decide) rfl dL_law_1294 dL_law_1295 dL_law_1297 dL_law_1298 dL_law_1299 ?_
  refine LW.arg 2 F hn (by decide) rfl dL_law_1300 dL_law_1301 dL_law_1303 dL_law_1304 dL_law_1305 ?_
  refine LW.callMI [.int (Λ.xs (n + 1)), .int (Λ.xs (n + 2))] [.int a] F (by omega) ms_X10_bark ml_L_149 dL_law_1306 rfl ⟨_, _, rfl⟩ rfl (Nat.le_of_ble_eq_true rfl) (Nat.le_of_ble_eq_true rfl) hM (fun r2 gm hr => ?_)
  obtain ⟨e2, J1⟩ := hr
  rw [e2]
  refine LW.ieq F dL_law_1309 (tgt := 1764) (by decide) ?_
  exact LW.wid (Nat.le_succ k) (bot _ _ _ (XQ.iv I1 J1))
theorem lc_note (F : LF Λ) (hn : n + 6 ≤ Λ.L) (hk : k ≤ 599) (V : IV hx hm) (bot : ∀ (gx gm : PH) (f1 : Nat → Int64), IV gx gm → LW Λ n (k + 1) [] gx gm f1 1764 []) : LW Λ n k [] hx hm f 1314 [] := by
  refine LW.ald1 F dL_law_1314 ?_
  refine LW.arg 1 F hn (by decide) rfl dL_law_1315 dL_law_1316 dL_law_1318 dL_law_1319 dL_law_1320 ?_
  refine LW.arg 2 F hn (by decide) rfl dL_law_1321 dL_law_1322 dL_law_1324 dL_law_1325 dL_law_1326 ?_
  refine LW.arg 3 F hn (by decide) rfl dL_law_1327 dL_law_1328 dL_law_1330 dL_law_1331 dL_law_1332 ?_
  refine LW.bool F dL_law_1333 dL_law_1336 dL_law_1337 dL_law_1340 ?_
  obtain ⟨a, s1, hX, hM⟩ := c_note (D := Λ.D) (ca := Λ.ca) (ax := adx Λ.B Λ.ac) (am := adm Λ.B Λ.ac) (l := Λ.l) V (Λ.xs (n + 1)) (Λ.xs (n + 2)) (Λ.xs (n + 3))
  refine LW.callXI [.int (Λ.xs (n + 1)), .int (Λ.xs (n + 2)), .int (bz (Λ.xs (n + 3)))] [] F (by omega) ms_X9_note ml_L_150 dL_law_1341 rfl ⟨_, _, rfl⟩ rfl (Nat.le_of_ble_eq_true rfl) (Nat.le_of_ble_eq_true rfl) hX (fun r g hr => ?_)
  obtain ⟨e1, I1⟩ := hr
  rw [e1]
  refine LW.ald2 F dL_law_1344 ?_
  refine LW.arg 1 F hn (by decide) rfl dL_law_1345 dL_law_1346 dL_law_1348 dL_law_1349 dL_law_1350 ?_
  refine LW.arg 2 F hn (by decide) rfl dL_law_1351 dL_law_1352 dL_law_1354 dL_law_1355 dL_law_1356 ?_
  refine LW.arg 3 F hn (by decide) rfl dL_law_1357 dL_law_1358 dL_law_1360 dL_law_1361 dL_law_1362 ?_
  refine LW.bool F dL_law_1363 dL_law_1366 dL_law_1367 dL_law_1370 ?_
  refine LW.callMI [.int (Λ.xs (n + 1)), .int (Λ.xs (n + 2)), .int (bz (Λ.xs (n + 3)))] [.int a] F (by omega) ms_X10_note ml_L_154 dL_law_1371 rfl ⟨_, _, rfl⟩ rfl (Nat.le_of_ble_eq_true rfl) (Nat.le_of_ble_eq_true rfl) hM (fun r2 gm hr => ?_)
  obtain ⟨e2, J1⟩ := hr
  rw [e2]
  refine LW.ieq F dL_law_1374 (tgt := 1764) (by decide) ?_
  exact LW.wid (Nat.le_succ k) (bot _ _ _ (XQ.iv I1 J1))
theorem lc_strike (F : LF Λ) (hn : n + 6 ≤ Λ.L) (hk : k ≤ 599) (V : IV hx hm) (bot : ∀ (gx gm : PH) (f1 : Nat → Int64), IV gx gm → LW Λ n (k + 1) [] gx gm f1 1764 []) : LW Λ n k [] hx hm f 1379 [] := by
  refine LW.ald1 F dL_law_1379 ?_
  refine LW.arg 1 F hn (by decide) rfl dL_law_1380 dL_law_1381 dL_law_1383 dL_law_1384 dL_law_1385 ?_
  obtain ⟨a, s1, hX, hM⟩ := c_strike (D := Λ.D) (ca := Λ.ca) (ax := adx Λ.B Λ.ac) (am := adm Λ.B Λ.ac) (l := Λ.l) V (Λ.xs (n + 1))
  refine LW.callXI [.int (Λ.xs (n + 1))] [] F (by omega) ms_X9_strike ml_L_155 dL_law_1386 rfl ⟨_, _, rfl⟩ rfl (Nat.le_of_ble_eq_true rfl) (Nat.le_of_ble_eq_true rfl) hX (fun r g hr => ?_)
  obtain ⟨e1, I1⟩ := hr
  rw [e1]
  refine LW.ald2 F dL_law_1389 ?_
  refine LW.arg 1 F hn (by decide) rfl dL_law_1390 dL_law_1391 dL_law_1393 dL_law_1394 dL_law_1395 ?_
  refine LW.callMI [.int (Λ.xs (n + 1))] [.int a] F (by omega) ms_X10_strike ml_L_158 dL_law_1396 rfl ⟨_, _, rfl⟩ rfl (Nat.le_of_ble_eq_true rfl) (Nat.le_of_ble_eq_true rfl) hM (fun r2 gm hr => ?_)
  obtain ⟨e2, J1⟩ := hr
  rw [e2]
  refine LW.ieq F dL_law_1399 (tgt := 1764) (by decide) ?_
  exact LW.wid (Nat.le_succ k) (bot _ _ _ (XQ.iv I1 J1))
theorem lc_known (F : LF Λ) (hn : n + 6 ≤ Λ.L) (hk : k ≤ 599) (V : IV hx hm) (bot : ∀ (gx gm : PH) (f1 : Nat → Int64), IV gx gm → LW Λ n (k + 1) [] gx gm f1 1764 []) : LW Λ n k [] hx hm f 1404 [] := by
  refine LW.ald1 F dL_law_1404 ?_
  refine LW.arg 1 F hn (by decide) rfl dL_law_1405 dL_law_1406 dL_law_1408 dL_law_1409 dL_law_1410 ?_
  obtain ⟨a, s1, hX, hM⟩ := c_known (D := Λ.D) (ca := Λ.ca) (ax := adx Λ.B Λ.ac) (am := adm Λ.B Λ.ac) (l := Λ.l) V (Λ.xs (n + 1))
  refine LW.callXI [.int (Λ.xs (n + 1))] [] F (by omega) ms_X9_known ml_L_159 dL_law_1411 rfl ⟨_, _, rfl⟩ rfl (Nat.le_of_ble_eq_true rfl) (Nat.le_of_ble_eq_true rfl) hX (fun r g hr => ?_)
  obtain ⟨e1, I1⟩ := hr
  rw [e1]
  refine LW.ald2 F dL_law_1414 ?_
  refine LW.arg 1 F hn (by decide) rfl dL_law_1415 dL_law_1416 dL_law_1418 dL_law_1419 dL_law_1420 ?_
  refine LW.callMI [.int (Λ.xs (n + 1))] [.int a] F (by omega) ms_X10_known ml_L_162 dL_law_1421 rfl ⟨_, _, rfl⟩ rfl (Nat.le_of_ble_eq_true rfl) (Nat.le_of_ble_eq_true rfl) hM (fun r2 gm hr => ?_)
  obtain ⟨e2, J1⟩ := hr
  rw [e2]
  refine LW.ieq F dL_law_1424 (tgt := 1764) (by decide) ?_
  exact LW.wid (Nat.le_succ k) (bot _ _ _ (XQ.iv I1 J1))
theorem lc_thieves (F : LF Λ) (hn : n + 6 ≤ Λ.L) (hk : k ≤ 599) (V : IV hx hm) (bot : ∀ (gx gm : PH) (f1 : Nat → Int64), IV gx gm → LW Λ n (k + 1) [] gx gm f1 1764 []) : LW Λ n k [] hx hm f 1429 [] := by
  refine LW.ald1 F dL_law_1429 ?_
  obtain ⟨a, s1, hX, hM⟩ := c_thieves (D := Λ.D) (ca := Λ.ca) (ax := adx Λ.B Λ.ac) (am := adm Λ.B Λ.ac) (l := Λ.l) V
  refine LW.callXI [] [] F (by omega) ms_X9_thieves ml_L_163 dL_law_1430 rfl ⟨_, _, rfl⟩ rfl (Nat.le_of_ble_eq_true rfl) (Nat.le_of_ble_eq_true rfl) hX (fun r g hr => ?_)
  obtain ⟨e1, I1⟩ := hr
  rw [e1]
  refine LW.ald2 F dL_law_1433 ?_
  refine LW.callMI [] [.int a] F (by omega) ms_X10_thieves ml_L_166 dL_law_1434 rfl ⟨_, _, rfl⟩ rfl (Nat.le_of_ble_eq_true rfl) (Nat.le_of_ble_eq_true rfl) hM (fun r2 gm hr => ?_)
  obtain ⟨e2, J1⟩ := hr
  rw [e2]
  refine LW.ieq F dL_law_1437 (tgt := 1764) (by decide) ?_
  exact LW.wid (Nat.le_succ k) (bot _ _ _ (XQ.iv I1 J1))
theorem lc_thief (F : LF Λ) (hn : n + 6 ≤ Λ.L) (hk : k ≤ 599) (V : IV hx hm) (bot : ∀ (gx gm : PH) (f1 : Nat → Int64), IV gx gm → LW Λ n (k + 1) [] gx gm f1 1764 []) : LW Λ n k [] hx hm f 1442 [] := by
  refine LW.ald1 F dL_law_1442 ?_
  refine LW.arg 1 F hn (by decide) rfl dL_law_1443 dL_law_1444 dL_law_1446 dL_law_1447 dL_law_1448 ?_
  refine LW.arg 2 F hn (by decide) rfl dL_law_1449 dL_law_1450 dL_law_1452 dL_law_1453 dL_law_1454 ?_
  obtain ⟨a, s1, hX, hM⟩ := c_thief (D := Λ.D) (ca := Λ.ca) (ax := adx Λ.B Λ.ac) (am := adm Λ.B Λ.ac) (l := Λ.l) V (Λ.xs (n + 1)) (Λ.xs (n + 2))
  refine LW.callXI [.int (Λ.xs (n + 1)), .int (Λ.xs (n + 2))] [] F (by omega) ms_X9_thief ml_L_167 dL_law_1455 rfl ⟨_, _, rfl⟩ rfl (Nat.le_of_ble_eq_true rfl) (Nat.le_of_ble_eq_true rfl) hX (fun r g hr => ?_)
  obtain ⟨e1, I1⟩ := hr
  rw [e1]
  refine LW.ald2 F dL_law_1458 ?_
  refine LW.arg 1 F hn (by decide) rfl dL_law_1459 dL_law_1460 dL_law_1462 dL_law_1463 dL_law_1464 ?_
  refine LW.arg 2 F hn (by decide) rfl dL_law_1465 dL_law_1466 dL_law_1468 dL_law_1469 dL_law_1470 ?_
  refine LW.callMI [.int (Λ.xs (n + 1)), .int (Λ.xs (n + 2))] [.int a] F (by omega) ms_X10_thief ml_L_170 dL_law_1471 rfl ⟨_, _, rfl⟩ rfl (Nat.le_of_ble_eq_true rfl) (Nat.le_of_ble_eq_true rfl) hM (fun r2 gm hr => ?_)
  obtain ⟨e2, J1⟩ := hr
  rw [e2]
  refine LW.ieq F dL_law_1474 (tgt := 1764) (by decide) ?_
  exact LW.wid (Nat.le_succ k) (bot _ _ _ (XQ.iv I1 J1))
theorem lc_left (F : LF Λ) (hn : n + 6 ≤ Λ.L) (hk : k ≤ 599) (V : IV hx hm) (bot : ∀ (gx gm : PH) (f1 : Nat → Int64), IV gx gm → LW Λ n (k + 1) [] gx gm f1 1764 []) : LW Λ n k [] hx hm f 1479 [] := by
  refine LW.ald1 F dL_law_1479 ?_
  refine LW.arg 1 F hn (by decide) rfl dL_law_1480 dL_law_1481 dL_law_1483 dL_law_1484 dL_law_1485 ?_
  refine LW.arg 2 F hn (by decide) rfl dL_law_1486 dL_law_1487 dL_law_1489 dL_law_1490 dL_law_1491 ?_
  obtain ⟨a, s1, hX, hM⟩ := c_left (D := Λ.D) (ca := Λ.ca) (ax := adx Λ.B Λ.ac) (am := adm Λ.B Λ.ac) (l := Λ.l) V (Λ.xs (n + 1)) (Λ.xs (n + 2))
  refine LW.callXI [.int (Λ.xs (n + 1)), .int (Λ.xs (n + 2))] [] F (by omega) ms_X9_left ml_L_171 dL_law_1492 rfl ⟨_, _, rfl⟩ rfl (Nat.le_of_ble_eq_true rfl) (Nat.le_of_ble_eq_true rfl) hX (fun r g hr => ?_)
  obtain ⟨e1, I1⟩ := hr
  rw [e1]
  refine LW.ald2 F dL_law_1495 ?_
  refine LW.arg 1 F hn (by decide) rfl dL_law_1496 dL_law_1497 dL_law_1499 dL_law_1500 dL_law_1501 ?_
  refine LW.arg 2 F hn (by decide) rfl dL_law_1502 dL_law_1503 dL_law_1505 dL_law_1506 dL_law_1507 ?_
  refine LW.callMI [.int (Λ.xs (n + 1)), .int (Λ.xs (n + 2))] [.int a] F (by omega) ms_X10_left ml_L_174 dL_law_1508 rfl ⟨_, _, rfl⟩ rfl (Nat.le_of_ble_eq_true rfl) (Nat.le_of_ble_eq_true rfl) hM (fun r2 gm hr => ?_)
  obtain ⟨e2, J1⟩ := hr
  rw [e2]
  refine LW.ieq F dL_law_1511 (tgt := 1764) (by decide) ?_
  exact LW.wid (Nat.le_succ k) (bot _ _ _ (XQ.iv I1 J1))
theorem lc_rests (F : LF Λ) (hn : n + 6 ≤ Λ.L) (hk : k ≤ 599) (V : IV hx hm) (bot : ∀ (gx gm : PH) (f1 : Nat → Int64), IV gx gm → LW Λ n (k + 1) [] gx gm f1 1764 []) : LW Λ n k [] hx hm f 1516 [] := by
  refine LW.ald1 F dL_law_1516 ?_
  refine LW.arg 1 F hn (by decide) rfl dL_law_1517 dL_law_1518 dL_law_1520 dL_law_1521 dL_law_1522 ?_
  refine LW.arg 2 F hn (by decide) rfl dL_law_1523 dL_law_1524 dL_law_1526 dL_law_1527 dL_law_1528 ?_
  refine LW.arg 3 F hn (by decide) rfl dL_law_1529 dL_law_1530 dL_law_1532 dL_law_1533 dL_law_1534 ?_
  obtain ⟨a, s1, hX, hM⟩ := c_rests (D := Λ.D) (ca := Λ.ca) (ax := adx Λ.B Λ.ac) (am := adm Λ.B Λ.ac) (l := Λ.l) V (Λ.xs (n + 1)) (Λ.xs (n + 2)) (Λ.xs (n + 3))
  refine LW.callXI [.int (Λ.xs (n + 1)), .int (Λ.xs (n + 2)), .int (Λ.xs (n + 3))] [] F (by omega) ms_X9_rests ml_L_175 dL_law_1535 rfl ⟨_, _, rfl⟩ rfl (Nat.le_of_ble_eq_true rfl) (Nat.le_of_ble_eq_true rfl) hX (fun r g hr => ?_)
  obtain ⟨e1, I1⟩ := hr
  rw [e1]
  refine LW.ald2 F dL_law_1538 ?_
  refine LW.arg 1 F hn (by decide) rfl dL_law_1539 dL_law_1540 dL_law_1542 dL_law_1543 dL_law_1544 ?_
  refine LW.arg 2 F hn (by decide) rfl dL_law_1545 dL_law_1546 dL_law_1548 dL_law_1549 dL_law_1550 ?_
  refine LW.arg 3 F hn (by decide) rfl dL_law_1551 dL_law_1552 dL_law_1554 dL_law_1555 dL_law_1556 ?_
  refine LW.callMI [.int (Λ.xs (n + 1)), .int (Λ.xs (n + 2)), .int (Λ.xs (n + 3))] [.int a] F (by omega) ms_X10_rests ml_L_179 dL_law_1557 rfl ⟨_, _, rfl⟩ rfl (Nat.le_of_ble_eq_true rfl) (Nat.le_of_ble_eq_true rfl) hM (fun r2 gm hr => ?_)
  obtain ⟨e2, J1⟩ := hr
  rw [e2]
  refine LW.ieq F dL_law_1560 (tgt := 1764) (by decide) ?_
  exact LW.wid (Nat.le_succ k) (bot _ _ _ (XQ.iv I1 J1))
theorem lc_rest (F : LF Λ) (hn : n + 6 ≤ Λ.L) (hk : k ≤ 599) (V : IV hx hm) (bot : ∀ (gx gm : PH) (f1 : Nat → Int64), IV gx gm → LW Λ n (k + 1) [] gx gm f1 1764 []) : LW Λ n k [] hx hm f 1565 [] := by
  refine LW.ald1 F dL_law_1565 ?_
  refine LW.arg 1 F hn (by decide) rfl dL_law_1566 dL_law_1567 dL_law_1569 dL_law_1570 dL_law_1571 ?_
  refine LW.arg 2 F hn (by decide) rfl dL_law_1572 dL_law_1573 dL_law_1575 dL_law_1576 dL_law_1577 ?_
  refine LW.arg 3 F hn (by decide) rfl dL_law_1578 dL_law_1579 dL_law_1581 dL_law_1582 dL_law_1583 ?_
  refine LW.arg 4 F hn (by decide) rfl dL_law_1584 dL_law_1585 dL_law_1587 dL_law_1588 dL_law_1589 ?_
  obtain ⟨a, s1, hX, hM⟩ := c_rest (D := Λ.D) (ca := Λ.ca) (ax := adx Λ.B Λ.ac) (am := adm Λ.B Λ.ac) (l := Λ.l) V (Λ.xs (n + 1)) (Λ.xs (n + 2)) (Λ.xs (n + 3)) (Λ.xs (n + 4))
  refine LW.callXI [.int (Λ.xs (n + 1)), .int (Λ.xs (n + 2)), .int (Λ.xs (n + 3)), .int (Λ.xs (n + 4))] [] F (by omega) ms_X9_rest ml_L_180 dL_law_1590 rfl ⟨_, _, rfl⟩ rfl (Nat.le_of_ble_eq_true rfl) (Nat.le_of_ble_eq_true rfl) hX (fun r g hr => ?_)
  obtain ⟨e1, I1⟩ := hr
  rw [e1]
  refine LW.ald2 F dL_law_1593 ?_
  refine LW.arg 1 F hn (by decide) rfl dL_law_1594 dL_law_1595 dL_law_1597 dL_law_1598 dL_law_1599 ?_
  refine LW.arg 2 F hn (by decide) rfl dL_law_1600 dL_law_1601 dL_law_1603 dL_law_1604 dL_law_1605 ?_
  refine LW.arg 3 F hn (by decide) rfl dL_law_1606 dL_law_1607 dL_law_1609 dL_law_1610 dL_law_1611 ?_
  refine LW.arg 4 F hn (by decide) rfl dL_law_1612 dL_law_1613 dL_law_1615 dL_law_1616 dL_law_1617 ?_
  refine LW.callMI [.int (Λ.xs (n + 1)), .int (Λ.xs (n + 2)), .int (Λ.xs (n + 3)), .int (Λ.xs (n + 4))] [.int a] F (by omega) ms_X10_rest ml_L_184 dL_law_1618 rfl ⟨_, _, rfl⟩ rfl (Nat.le_of_ble_eq_true rfl) (Nat.le_of_ble_eq_true rfl) hM (fun r2 gm hr => ?_)
  obtain ⟨e2, J1⟩ := hr
  rw [e2]
  refine LW.ieq F dL_law_1621 (tgt := 1764) (by decide) ?_
  exact LW.wid (Nat.le_succ k) (bot _ _ _ (XQ.iv I1 J1))
theorem lc_year (F : LF Λ) (hn : n + 6 ≤ Λ.L) (hk : k ≤ 599) (V : IV hx hm) (bot : ∀ (gx gm : PH) (f1 : Nat → Int64), IV gx gm → LW Λ n (k + 1) [] gx gm f1 1764 []) : LW Λ n k [] hx hm f 1626 [] := by
  refine LW.ald1 F dL_law_1626 ?_
  refine LW.arg 1 F hn (by decide) rfl dL_law_1627 dL_law_1628 dL_law_1630 dL_law_1631 dL_law_1632 ?_
  refine LW.arg 2 F hn (by decide) rfl dL_law_1633 dL_law_1634 dL_law_1636 dL_law_1637 dL_law_1638 ?_
  obtain ⟨a, s1, hX, hM⟩ := c_year (D := Λ.D) (ca := Λ.ca) (ax := adx Λ.B Λ.ac) (am := adm Λ.B Λ.ac) (l := Λ.l) V (Λ.xs (n + 1)) (Λ.xs (n + 2))
  refine LW.callXI [.int (Λ.xs (n + 1)), .int (Λ.xs (n + 2))] [] F (by omega) ms_X9_year ml_L_185 dL_law_1639 rfl ⟨_, _, rfl⟩ rfl (Nat.le_of_ble_eq_true rfl) (Nat.le_of_ble_eq_true rfl) hX (fun r g hr => ?_)
  obtain ⟨e1, I1⟩ := hr
  rw [e1]
  refine LW.ald2 F dL_law_1642 ?_
  refine LW.arg 1 F hn (by decide) rfl dL_law_1643 dL_law_1644 dL_law_1646 dL_law_1647 dL_law_1648 ?_
  refine LW.arg 2 F hn (by decide) rfl dL_law_1649 dL_law_1650 dL_law_1652 dL_law_1653 dL_law_1654 ?_
  refine LW.callMI [.int (Λ.xs (n + 1)), .int (Λ.xs (n + 2))] [.int a] F (by omega) ms_X10_year ml_L_188 dL_law_1655 rfl ⟨_, _, rfl⟩ rfl (Nat.le_of_ble_eq_true rfl) (Nat.le_of_ble_eq_true rfl) hM (fun r2 gm hr => ?_)
  obtain ⟨e2, J1⟩ := hr
  rw [e2]
  refine LW.ieq F dL_law_1658 (tgt := 1764) (by decide) ?_
  exact LW.wid (Nat.le_succ k) (bot _ _ _ (XQ.iv I1 J1))
theorem lc_tried (F : LF Λ) (hn : n + 6 ≤ Λ.L) (hk : k ≤ 599) (V : IV hx hm) (bot : ∀ (gx gm : PH) (f1 : Nat → Int64), IV gx gm → LW Λ n (k + 1) [] gx gm f1 1764 []) : LW Λ n k [] hx hm f 1663 [] := by
  refine LW.ald1 F dL_law_1663 ?_
  refine LW.arg 1 F hn (by decide) rfl dL_law_1664 dL_law_1665 dL_law_1667 dL_law_1668 dL_law_1669 ?_
  refine LW.arg 2 F hn (by decide) rfl dL_law_1670 dL_law_1671 dL_law_1673 dL_law_1674 dL_law_1675 ?_
  obtain ⟨a, s1, hX, hM⟩ := c_tried (D := Λ.D) (ca := Λ.ca) (ax := adx Λ.B Λ.ac) (am := adm Λ.B Λ.ac) (l := Λ.l) V (Λ.xs (n + 1)) (Λ.xs (n + 2))
  refine LW.callXI [.int (Λ.xs (n + 1)), .int (Λ.xs (n + 2))] [] F (by omega) ms_X9_tried ml_L_189 dL_law_1676 rfl ⟨_, _, rfl⟩ rfl (Nat.le_of_ble_eq_true rfl) (Nat.le_of_ble_eq_true rfl) hX (fun r g hr => ?_)
  obtain ⟨e1, I1⟩ := hr
  rw [e1]
  refine LW.ald2 F dL_law_1679 ?_
  refine LW.arg 1 F hn (by decide) rfl dL_law_1680 dL_law_1681 dL_law_1683 dL_law_1684 dL_law_1685 ?_
  refine LW.arg 2 F hn (by decide) rfl dL_law_1686 dL_law_1687 dL_law_1689 dL_law_1690 dL_law_1691 ?_
  refine LW.callMI [.int (Λ.xs (n + 1)), .int (Λ.xs (n + 2))] [.int a] F (by omega) ms_X10_tried ml_L_192 dL_law_1692 rfl ⟨_, _, rfl⟩ rfl (Nat.le_of_ble_eq_true rfl) (Nat.le_of_ble_eq_true rfl) hM (fun r2 gm hr => ?_)
  obtain ⟨e2, J1⟩ := hr
  rw [e2]
  refine LW.ieq F dL_law_1695 (tgt := 1764) (by decide) ?_
  exact LW.wid (Nat.le_succ k) (bot _ _ _ (XQ.iv I1 J1))
theorem lc_undo (F : LF Λ) (hn : n + 6 ≤ Λ.L) (hk : k ≤ 599) (V : IV hx hm) (bot : ∀ (gx gm : PH) (f1 : Nat → Int64), IV gx gm → LW Λ n (k + 1) [] gx gm f1 1764 []) : LW Λ n k [] hx hm f 1700 [] := by
  refine LW.ald1 F dL_law_1700 ?_
  obtain ⟨a, s1, hX, hM⟩ := c_undo (D := Λ.D) (ca := Λ.ca) (ax := adx Λ.B Λ.ac) (am := adm Λ.B Λ.ac) (l := Λ.l) V
  refine LW.callXI [] [] F (by omega) ms_X9_undo ml_L_193 dL_law_1701 rfl ⟨_, _, rfl⟩ rfl (Nat.le_of_ble_eq_true rfl) (Nat.le_of_ble_eq_true rfl) hX (fun r g hr => ?_)
  obtain ⟨e1, I1⟩ := hr
  rw [e1]
  refine LW.ald2 F dL_law_1704 ?_
  refine LW.callMI [] [.int a] F (by omega) ms_X10_undo ml_L_196 dL_law_1705 rfl ⟨_, _, rfl⟩ rfl (Nat.le_of_ble_eq_true rfl) (Nat.le_of_ble_eq_true rfl) hM (fun r2 gm hr => ?_)
  obtain ⟨e2, J1⟩ := hr
  rw [e2]
  refine LW.ieq F dL_law_1708 (tgt := 1764) (by decide) ?_
  exact LW.wid (Nat.le_succ k) (bot _ _ _ (XQ.iv I1 J1))
theorem lc_keep (F : LF Λ) (hn : n + 6 ≤ Λ.L) (hk : k ≤ 599) (V : IV hx hm) (bot : ∀ (gx gm : PH) (f1 : Nat → Int64), IV gx gm → LW Λ n (k + 1) [] gx gm f1 1764 []) : LW Λ n k [] hx hm f 1713 [] := by
  refine LW.ald1 F dL_law_1713 ?_
  obtain ⟨a, s1, hX, hM⟩ := c_keep (D := Λ.D) (ca := Λ.ca) (ax := adx Λ.B Λ.ac) (am := adm Λ.B Λ.ac) (l := Λ.l) V
  refine LW.callXI [] [] F (by omega) ms_X9_keep ml_L_197 dL_law_1714 rfl ⟨_, _, rfl⟩ rfl (Nat.le_of_ble_eq_true rfl) (Nat.le_of_ble_eq_true rfl) hX (fun r g hr => ?_)
  obtain ⟨e1, I1⟩ := hr
  rw [e1]
  refine LW.ald2 F dL_law_1717 ?_
  refine LW.callMI [] [.int a] F (by omega) ms_X10_keep ml_L_200 dL_law_1718 rfl ⟨_, _, rfl⟩ rfl (Nat.le_of_ble_eq_true rfl) (Nat.le_of_ble_eq_true rfl) hM (fun r2 gm hr => ?_)
  obtain ⟨e2, J1⟩ := hr
  rw [e2]
  refine LW.ieq F dL_law_1721 (tgt := 1764) (by decide) ?_
  exact LW.wid (Nat.le_succ k) (bot _ _ _ (XQ.iv I1 J1))
theorem lc_back (F : LF Λ) (hn : n + 6 ≤ Λ.L) (hk : k ≤ 599) (V : IV hx hm) (bot : ∀ (gx gm : PH) (f1 : Nat → Int64), IV gx gm → LW Λ n (k + 1) [] gx gm f1 1764 []) : LW Λ n k [] hx hm f 1726 [] := by
  refine LW.ald1 F dL_law_1726 ?_
  obtain ⟨a, s1, hX, hM⟩ := c_back (D := Λ.D) (ca := Λ.ca) (ax := adx Λ.B Λ.ac) (am := adm Λ.B Λ.ac) (l := Λ.l) V
  refine LW.callXI [] [] F (by omega) ms_X9_back ml_L_201 dL_law_1727 rfl ⟨_, _, rfl⟩ rfl (Nat.le_of_ble_eq_true rfl) (Nat.le_of_ble_eq_true rfl) hX (fun r g hr => ?_)
  obtain ⟨e1, I1⟩ := hr
  rw [e1]
  refine LW.ald2 F dL_law_1730 ?_
  refine LW.callMI [] [.int a] F (by omega) ms_X10_back ml_L_204 dL_law_1731 rfl ⟨_, _, rfl⟩ rfl (Nat.le_of_ble_eq_true rfl) (Nat.le_of_ble_eq_true rfl) hM (fun r2 gm hr => ?_)
  obtain ⟨e2, J1⟩ := hr
  rw [e2]
  refine LW.ieq F dL_law_1734 (tgt := 1764) (by decide) ?_
  exact LW.wid (Nat.le_succ k) (bot _ _ _ (XQ.iv I1 J1))
theorem lc_count (F : LF Λ) (hn : n + 6 ≤ Λ.L) (hk : k ≤ 599) (V : IV hx hm) (bot : ∀ (gx gm : PH) (f1 : Nat → Int64), IV gx gm → LW Λ n (k + 1) [] gx gm f1 1764 []) : LW Λ n k [] hx hm f 1739 [] := by
  refine LW.ald1 F dL_law_1739 ?_
  refine LW.arg 1 F hn (by decide) rfl dL_law_1740 dL_law_1741 dL_law_1743 dL_law_1744 dL_law_1745 ?_
  obtain ⟨a, s1, hX, hM⟩ := c_count (D := Λ.D) (ca := Λ.ca) (ax := adx Λ.B Λ.ac) (am := adm Λ.B Λ.ac) (l := Λ.l) V (Λ.xs (n + 1))
  refine LW.callXI [.int (Λ.xs (n + 1))] [] F (by omega) ms_X9_count ml_L_205 dL_law_1746 rfl ⟨_, _, rfl⟩ rfl (Nat.le_of_ble_eq_true rfl) (Nat.le_of_ble_eq_true rfl) hX (fun r g hr => ?_)
  obtain ⟨e1, I1⟩ := hr
  rw [e1]
  refine LW.ald2 F dL_law_1749 ?_
  refine LW.arg 1 F hn (by decide) rfl dL_law_1750 dL_law_1751 dL_law_1753 dL_law_1754 dL_law_1755 ?_
  refine LW.callMI [.int (Λ.xs (n + 1))] [.int a] F (by omega) ms_X10_count ml_L_208 dL_law_1756 rfl ⟨_, _, rfl⟩ rfl (Nat.le_of_ble_eq_true rfl) (Nat.le_of_ble_eq_true rfl) hM (fun r2 gm hr => ?_)
  obtain ⟨e2, J1⟩ := hr
  rw [e2]
  refine LW.ieq F dL_law_1759 (tgt := 1764) (by decide) ?_
  exact LW.wid (Nat.le_succ k) (bot _ _ _ (XQ.iv I1 J1))
end LCS
