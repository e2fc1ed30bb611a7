/-! THE LAW 2: its regular cases (made by wip/gen/law.py) -/
section LWC
theorem kwL_17 : Cond.methodLink RL 17 yX9_init ∈ lw_good := wg1 25 rfl rfl
theorem kwL_21 : Cond.methodLink RL 21 yX9_feed ∈ lw_good := wg2 178 rfl rfl
theorem kwL_26 : Cond.methodLink RL 26 yX9_text ∈ lw_good := wg2 186 rfl rfl
theorem kwL_31 : Cond.methodLink RL 31 yX9_fault ∈ lw_good := wg3 154 rfl rfl
theorem kwL_35 : Cond.methodLink RL 35 yX9_named ∈ lw_good := wg3 158 rfl rfl
theorem kwL_49 : Cond.methodLink RL 49 yX9_nurse ∈ lw_good := wg3 163 rfl rfl
theorem kwL_53 : Cond.methodLink RL 53 yX9_city ∈ lw_good := wg3 179 rfl rfl
theorem kwL_57 : Cond.methodLink RL 57 yX9_moths ∈ lw_good := wg3 198 rfl rfl
theorem kwL_61 : Cond.methodLink RL 61 yX9_law ∈ lw_good := wg4 6 rfl rfl
theorem kwL_66 : Cond.methodLink RL 66 yX9_mend ∈ lw_good := wg4 16 rfl rfl
theorem kwL_70 : Cond.methodLink RL 70 yX9_exchange ∈ lw_good := wg4 28 rfl rfl
theorem kwL_75 : Cond.methodLink RL 75 yX9_give ∈ lw_good := wg4 36 rfl rfl
theorem kwL_79 : Cond.methodLink RL 79 yX9_tea ∈ lw_good := wg4 40 rfl rfl
theorem kwL_83 : Cond.methodLink RL 83 yX9_go ∈ lw_good := wg4 45 rfl rfl
theorem kwL_87 : Cond.methodLink RL 87 yX9_ahead ∈ lw_good := wg4 90 rfl rfl
theorem kwL_92 : Cond.methodLink RL 92 yX9_firstBreach ∈ lw_good := wg4 106 rfl rfl
theorem kwL_96 : Cond.methodLink RL 96 yX9_quiet ∈ lw_good := wg4 110 rfl rfl
theorem kwL_100 : Cond.methodLink RL 100 yX9_best ∈ lw_good := wg4 118 rfl rfl
theorem kwL_104 : Cond.methodLink RL 104 yX9_enough ∈ lw_good := wg4 135 rfl rfl
theorem kwL_108 : Cond.methodLink RL 108 yX9_nursing ∈ lw_good := wg4 139 rfl rfl
theorem kwL_112 : Cond.methodLink RL 112 yX9_rests ∈ lw_good := wg4 167 rfl rfl
theorem kwL_116 : Cond.methodLink RL 116 yX9_rest ∈ lw_good := wg4 179 rfl rfl
theorem kwL_120 : Cond.methodLink RL 120 yX9_whole ∈ lw_good := wg4 183 rfl rfl
theorem kwL_125 : Cond.methodLink RL 125 yX9_lists ∈ lw_good := wg4 191 rfl rfl
theorem kwL_129 : Cond.methodLink RL 129 yX9_stays ∈ lw_good := wg4 195 rfl rfl
theorem kwL_133 : Cond.methodLink RL 133 yX9_worst ∈ lw_good := wg4 199 rfl rfl
theorem kwL_137 : Cond.methodLink RL 137 yX9_until ∈ lw_good := wg4 203 rfl rfl
theorem kwL_141 : Cond.methodLink RL 141 yX9_safest ∈ lw_good := wg4 207 rfl rfl
theorem kwL_145 : Cond.methodLink RL 145 yX9_answersOn ∈ lw_good := wg4 211 rfl rfl
theorem kwL_149 : Cond.methodLink RL 149 yX9_note ∈ lw_good := wg4 216 rfl rfl
theorem kwL_154 : Cond.methodLink RL 154 yX9_out ∈ lw_good := wg4 224 rfl rfl
theorem kwL_158 : Cond.methodLink RL 158 yX9_known ∈ lw_good := wg4 232 rfl rfl
theorem kwL_163 : Cond.methodLink RL 163 yX9_cares ∈ lw_good := wg4 236 rfl rfl
theorem kwL_167 : Cond.methodLink RL 167 yX9_chance ∈ lw_good := wg5 26 rfl rfl
theorem kwL_171 : Cond.methodLink RL 171 yX9_tried ∈ lw_good := wg5 30 rfl rfl
theorem kwL_175 : Cond.methodLink RL 175 yX9_undo ∈ lw_good := wg5 42 rfl rfl
theorem kwL_179 : Cond.methodLink RL 179 yX9_keep ∈ lw_good := wg5 54 rfl rfl
theorem kwL_183 : Cond.methodLink RL 183 yX9_back ∈ lw_good := wg5 58 rfl rfl
theorem kwL_187 : Cond.methodLink RL 187 yX9_count ∈ lw_good := wg5 62 rfl rfl
theorem kwL_39 : Cond.methodLink RL 39 yL_doll ∈ lw_good := wg5 67 rfl rfl
theorem kwL_7 : Cond.methodLink RL 7 yX9_doll ∈ lw_good := wg5 72 rfl rfl
theorem kwL_20 : Cond.methodLink RL 20 yX10_init ∈ lw_good := wg5 160 rfl rfl
theorem kwL_45 : Cond.methodLink RL 45 yX10_thrown ∈ lw_good := wg6 107 rfl rfl
theorem kwL_25 : Cond.methodLink RL 25 yX10_feed ∈ lw_good := wg6 111 rfl rfl
theorem kwL_30 : Cond.methodLink RL 30 yX10_text ∈ lw_good := wg6 115 rfl rfl
theorem kwL_34 : Cond.methodLink RL 34 yX10_fault ∈ lw_good := wg6 239 rfl rfl
theorem kwL_38 : Cond.methodLink RL 38 yX10_named ∈ lw_good := wg7 3 rfl rfl
theorem kwL_44 : Cond.methodLink RL 44 yX10_doll ∈ lw_good := wg7 7 rfl rfl
theorem kwL_52 : Cond.methodLink RL 52 yX10_nurse ∈ lw_good := wg7 19 rfl rfl
theorem kwL_56 : Cond.methodLink RL 56 yX10_city ∈ lw_good := wg7 31 rfl rfl
theorem kwL_60 : Cond.methodLink RL 60 yX10_moths ∈ lw_good := wg7 50 rfl rfl
theorem kwL_65 : Cond.methodLink RL 65 yX10_law ∈ lw_good := wg7 93 rfl rfl
theorem kwL_69 : Cond.methodLink RL 69 yX10_mend ∈ lw_good := wg7 102 rfl rfl
theorem kwL_74 : Cond.methodLink RL 74 yX10_exchange ∈ lw_good := wg7 114 rfl rfl
theorem kwL_78 : Cond.methodLink RL 78 yX10_give ∈ lw_good := wg7 118 rfl rfl
theorem kwL_82 : Cond.methodLink RL 82 yX10_tea ∈ lw_good := wg7 122 rfl rfl
theorem kwL_86 : Cond.methodLink RL 86 yX10_go ∈ lw_good := wg7 126 rfl rfl
theorem kwL_91 : Cond.methodLink RL 91 yX10_ahead ∈ lw_good := wg7 161 rfl rfl
theorem kwL_95 : Cond.methodLink RL 95 yX10_firstBreach ∈ lw_good := wg7 177 rfl rfl
theorem kwL_99 : Cond.methodLink RL 99 yX10_quiet ∈ lw_good := wg7 181 rfl rfl
theorem kwL_140 : Cond.methodLink RL 140 yX10_until ∈ lw_good := wg7 189 rfl rfl
theorem kwL_103 : Cond.methodLink RL 103 yX10_best ∈ lw_good := wg7 193 rfl rfl
theorem kwL_107 : Cond.methodLink RL 107 yX10_enough ∈ lw_good := wg7 201 rfl rfl
theorem kwL_111 : Cond.methodLink RL 111 yX10_nursing ∈ lw_good := wg7 205 rfl rfl
theorem kwL_144 : Cond.methodLink RL 144 yX10_safest ∈ lw_good := wg7 213 rfl rfl
theorem kwL_148 : Cond.methodLink RL 148 yX10_answersOn ∈ lw_good := wg7 217 rfl rfl
theorem kwL_115 : Cond.methodLink RL 115 yX10_rests ∈ lw_good := wg7 221 rfl rfl
theorem kwL_119 : Cond.methodLink RL 119 yX10_rest ∈ lw_good := wg7 237 rfl rfl
theorem kwL_124 : Cond.methodLink RL 124 yX10_whole ∈ lw_good := wg8 1 rfl rfl
theorem kwL_128 : Cond.methodLink RL 128 yX10_lists ∈ lw_good := wg8 10 rfl rfl
theorem kwL_132 : Cond.methodLink RL 132 yX10_stays ∈ lw_good := wg8 14 rfl rfl
theorem kwL_136 : Cond.methodLink RL 136 yX10_worst ∈ lw_good := wg8 18 rfl rfl
theorem kwL_153 : Cond.methodLink RL 153 yX10_note ∈ lw_good := wg8 22 rfl rfl
theorem kwL_157 : Cond.methodLink RL 157 yX10_out ∈ lw_good := wg8 26 rfl rfl
theorem kwL_162 : Cond.methodLink RL 162 yX10_known ∈ lw_good := wg8 30 rfl rfl
theorem kwL_166 : Cond.methodLink RL 166 yX10_cares ∈ lw_good := wg8 34 rfl rfl
theorem kwL_170 : Cond.methodLink RL 170 yX10_chance ∈ lw_good := wg8 50 rfl rfl
theorem kwL_174 : Cond.methodLink RL 174 yX10_tried ∈ lw_good := wg8 54 rfl rfl
theorem kwL_178 : Cond.methodLink RL 178 yX10_undo ∈ lw_good := wg8 62 rfl rfl
theorem kwL_182 : Cond.methodLink RL 182 yX10_keep ∈ lw_good := wg8 66 rfl rfl
theorem kwL_186 : Cond.methodLink RL 186 yX10_back ∈ lw_good := wg8 70 rfl rfl
theorem kwL_190 : Cond.methodLink RL 190 yX10_count ∈ lw_good := wg8 74 rfl rfl
variable {X : XT} {lc lm : Nat → Nat} {q k n b L i : Nat} {xs : Nat → Int32} {C M : Mem} {o : Nat → Int64}
theorem L_c0 (hX : LC X lc lm b L xs) (hi : i + 6 ≤ L) (hL : L ≤ 3072) (hC : Cp C M) (h0 : k ≤ 601024) (h1 : n ≤ 7293034) (kk : ∀ C' M', Cp C' M' → LW X lc lm q k n 1500 (lsL b lc lm q i) [] C' M' o) : LW X lc lm q k n 212 (lsL b lc lm q i) [] C M o := by
  obtain ⟨⟨r, C2⟩, e1, ⟨r2, M2⟩, e2, e3, hC2⟩ := s_feed hC (xs (i + 1)) (xs (i + 2)) (xs (i + 3)) (xs (i + 4)) (xs (i + 5))
  refine lw_al1 hX dL_law_212 ?_
  refine lw_arg hX 1 dL_law_213 dL_law_214 dL_law_216 dL_law_217 dL_law_218 rfl (by omega) hL ?_
  refine lw_arg hX 2 dL_law_219 dL_law_220 dL_law_222 dL_law_223 dL_law_224 rfl (by omega) hL ?_
  refine lw_arg hX 3 dL_law_225 dL_law_226 dL_law_228 dL_law_229 dL_law_230 rfl (by omega) hL ?_
  refine lw_arg hX 4 dL_law_231 dL_law_232 dL_law_234 dL_law_235 dL_law_236 rfl (by omega) hL ?_
  refine lw_arg hX 5 dL_law_237 dL_law_238 dL_law_240 dL_law_241 dL_law_242 rfl (by omega) hL ?_
  refine lw_cCI (As := [.int (xs (i + 1)), .int (xs (i + 2)), .int (xs (i + 3)), .int (xs (i + 4)), .int (xs (i + 5))]) (rest := []) hX (c_X9_feed e1) ok_X9_feed kwL_21 im_X9_feed se_X9_feed rfl rfl (by decide) (Nat.le_of_ble_eq_true rfl) rfl dL_law_243 h0 h1 ?_
  refine lw_al2 hX dL_law_246 ?_
  refine lw_arg hX 1 dL_law_247 dL_law_248 dL_law_250 dL_law_251 dL_law_252 rfl (by omega) hL ?_
  refine lw_arg hX 2 dL_law_253 dL_law_254 dL_law_256 dL_law_257 dL_law_258 rfl (by omega) hL ?_
  refine lw_arg hX 3 dL_law_259 dL_law_260 dL_law_262 dL_law_263 dL_law_264 rfl (by omega) hL ?_
  refine lw_arg hX 4 dL_law_265 dL_law_266 dL_law_268 dL_law_269 dL_law_270 rfl (by omega) hL ?_
  refine lw_arg hX 5 dL_law_271 dL_law_272 dL_law_274 dL_law_275 dL_law_276 rfl (by omega) hL ?_
  refine lw_cMI (As := [.int (xs (i + 1)), .int (xs (i + 2)), .int (xs (i + 3)), .int (xs (i + 4)), .int (xs (i + 5))]) (rest := [.int r]) hX (c_X10_feed e2) ok_X10_feed kwL_25 im_X10_feed se_X10_feed rfl rfl (by decide) (Nat.le_of_ble_eq_true rfl) rfl dL_law_277 h0 h1 ?_
  exact lw_eq (tgt := 1500) hX dL_law_280 (by decide) e3 (kk _ _ hC2)
theorem L_c1 (hX : LC X lc lm b L xs) (hi : i + 6 ≤ L) (hL : L ≤ 3072) (hC : Cp C M) (h0 : k ≤ 601024) (h1 : n ≤ 7293034) (kk : ∀ C' M', Cp C' M' → LW X lc lm q k n 1500 (lsL b lc lm q i) [] C' M' o) : LW X lc lm q k n 285 (lsL b lc lm q i) [] C M o := by
  obtain ⟨⟨r, C2⟩, e1, ⟨r2, M2⟩, e2, e3, hC2⟩ := s_text hC (xs (i + 1))
  refine lw_al1 hX dL_law_285 ?_
  refine lw_arg hX 1 dL_law_286 dL_law_287 dL_law_289 dL_law_290 dL_law_291 rfl (by omega) hL ?_
  refine lw_cCI (As := [.int (xs (i + 1))]) (rest := []) hX (c_X9_text e1) ok_X9_text kwL_26 im_X9_text se_X9_text rfl rfl (by decide) (Nat.le_of_ble_eq_true rfl) rfl dL_law_292 h0 h1 ?_
  refine lw_al2 hX dL_law_295 ?_
  refine lw_arg hX 1 dL_law_296 dL_law_297 dL_law_299 dL_law_300 dL_law_301 rfl (by omega) hL ?_
  refine lw_cMI (As := [.int (xs (i + 1))]) (rest := [.int r]) hX (c_X10_text e2) ok_X10_text kwL_30 im_X10_text se_X10_text rfl rfl (by decide) (Nat.le_of_ble_eq_true rfl) rfl dL_law_302 h0 h1 ?_
  exact lw_eq (tgt := 1500) hX dL_law_305 (by decide) e3 (kk _ _ hC2)
theorem L_c2 (hX : LC X lc lm b L xs) (hi : i + 6 ≤ L) (hL : L ≤ 3072) (hC : Cp C M) (h0 : k ≤ 601024) (h1 : n ≤ 7293034) (kk : ∀ C' M', Cp C' M' → LW X lc lm q k n 1500 (lsL b lc lm q i) [] C' M' o) : LW X lc lm q k n 310 (lsL b lc lm q i) [] C M o := by
  obtain ⟨⟨r, C2⟩, e1, ⟨r2, M2⟩, e2, e3, hC2⟩ := q_fault hC (xs (i + 1))
  refine lw_al1 hX dL_law_310 ?_
  refine lw_arg hX 1 dL_law_311 dL_law_312 dL_law_314 dL_law_315 dL_law_316 rfl (by omega) hL ?_
  refine lw_cCI (As := [.int (xs (i + 1))]) (rest := []) hX (c_X9_fault e1) ok_X9_fault kwL_31 im_X9_fault se_X9_fault rfl rfl (by decide) (Nat.le_of_ble_eq_true rfl) rfl dL_law_317 h0 h1 ?_
  refine lw_al2 hX dL_law_320 ?_
  refine lw_arg hX 1 dL_law_321 dL_law_322 dL_law_324 dL_law_325 dL_law_326 rfl (by omega) hL ?_
  refine lw_cMI (As := [.int (xs (i + 1))]) (rest := [.int r]) hX (c_X10_fault e2) ok_X10_fault kwL_34 im_X10_fault se_X10_fault rfl rfl (by decide) (Nat.le_of_ble_eq_true rfl) rfl dL_law_327 h0 h1 ?_
  exact lw_eq (tgt := 1500) hX dL_law_330 (by decide) e3 (kk _ _ hC2)
theorem L_c3 (hX : LC X lc lm b L xs) (hi : i + 6 ≤ L) (hL : L ≤ 3072) (hC : Cp C M) (h0 : k ≤ 601024) (h1 : n ≤ 7293034) (kk : ∀ C' M', Cp C' M' → LW X lc lm q k n 1500 (lsL b lc lm q i) [] C' M' o) : LW X lc lm q k n 335 (lsL b lc lm q i) [] C M o := by
  obtain ⟨⟨r, C2⟩, e1, ⟨r2, M2⟩, e2, e3, hC2⟩ := q_named hC (xs (i + 1)) (xs (i + 2))
  refine lw_al1 hX dL_law_335 ?_
  refine lw_arg hX 1 dL_law_336 dL_law_337 dL_law_339 dL_law_340 dL_law_341 rfl (by omega) hL ?_
  refine lw_arg hX 2 dL_law_342 dL_law_343 dL_law_345 dL_law_346 dL_law_347 rfl (by omega) hL ?_
  refine lw_cCI (As := [.int (xs (i + 1)), .int (xs (i + 2))]) (rest := []) hX (c_X9_named e1) ok_X9_named kwL_35 im_X9_named se_X9_named rfl rfl (by decide) (Nat.le_of_ble_eq_true rfl) rfl dL_law_348 h0 h1 ?_
  refine lw_al2 hX dL_law_351 ?_
  refine lw_arg hX 1 dL_law_352 dL_law_353 dL_law_355 dL_law_356 dL_law_357 rfl (by omega) hL ?_
  refine lw_arg hX 2 dL_law_358 dL_law_359 dL_law_361 dL_law_362 dL_law_363 rfl (by omega) hL ?_
  refine lw_cMI (As := [.int (xs (i + 1)), .int (xs (i + 2))]) (rest := [.int r]) hX (c_X10_named e2) ok_X10_named kwL_38 im_X10_named se_X10_named rfl rfl (by decide) (Nat.le_of_ble_eq_true rfl) rfl dL_law_364 h0 h1 ?_
  exact lw_eq (tgt := 1500) hX dL_law_367 (by decide) e3 (kk _ _ hC2)
theorem L_c5 (hX : LC X lc lm b L xs) (hi : i + 6 ≤ L) (hL : L ≤ 3072) (hC : Cp C M) (h0 : k ≤ 601024) (h1 : n ≤ 7293034) (kk : ∀ C' M', Cp C' M' → LW X lc lm q k n 1500 (lsL b lc lm q i) [] C' M' o) : LW X lc lm q k n 440 (lsL b lc lm q i) [] C M o := by
  obtain ⟨⟨r, C2⟩, e1, ⟨r2, M2⟩, e2, e3, hC2⟩ := q_nurse hC (xs (i + 1)) (xs (i + 2))
  refine lw_al1 hX dL_law_440 ?_
  refine lw_arg hX 1 dL_law_441 dL_law_442 dL_law_444 dL_law_445 dL_law_446 rfl (by omega) hL ?_
  refine lw_arg hX 2 dL_law_447 dL_law_448 dL_law_450 dL_law_451 dL_law_452 rfl (by omega) hL ?_
  refine lw_cCI (As := [.int (xs (i + 1)), .int (xs (i + 2))]) (rest := []) hX (c_X9_nurse e1) ok_X9_nurse kwL_49 im_X9_nurse se_X9_nurse rfl rfl (by decide) (Nat.le_of_ble_eq_true rfl) rfl dL_law_453 h0 h1 ?_
  refine lw_al2 hX dL_law_456 ?_
  refine lw_arg hX 1 dL_law_457 dL_law_458 dL_law_460 dL_law_461 dL_law_462 rfl (by omega) hL ?_
  refine lw_arg hX 2 dL_law_463 dL_law_464 dL_law_466 dL_law_467 dL_law_468 rfl (by omega) hL ?_
  refine lw_cMI (As := [.int (xs (i + 1)), .int (xs (i + 2))]) (rest := [.int r]) hX (c_X10_nurse e2) ok_X10_nurse kwL_52 im_X10_nurse se_X10_nurse rfl rfl (by decide) (Nat.le_of_ble_eq_true rfl) rfl dL_law_469 h0 h1 ?_
  exact lw_eq (tgt := 1500) hX dL_law_472 (by decide) e3 (kk _ _ hC2)
theorem L_c6 (hX : LC X lc lm b L xs) (hi : i + 6 ≤ L) (hL : L ≤ 3072) (hC : Cp C M) (h0 : k ≤ 601024) (h1 : n ≤ 7293034) (kk : ∀ C' M', Cp C' M' → LW X lc lm q k n 1500 (lsL b lc lm q i) [] C' M' o) : LW X lc lm q k n 477 (lsL b lc lm q i) [] C M o := by
  obtain ⟨⟨r, C2⟩, e1, ⟨r2, M2⟩, e2, e3, hC2⟩ := q_city hC (xs (i + 1)) (xs (i + 2))
  refine lw_al1 hX dL_law_477 ?_
  refine lw_arg hX 1 dL_law_478 dL_law_479 dL_law_481 dL_law_482 dL_law_483 rfl (by omega) hL ?_
  refine lw_arg hX 2 dL_law_484 dL_law_485 dL_law_487 dL_law_488 dL_law_489 rfl (by omega) hL ?_
  refine lw_cCI (As := [.int (xs (i + 1)), .int (xs (i + 2))]) (rest := []) hX (c_X9_city e1) ok_X9_city kwL_53 im_X9_city se_X9_city rfl rfl (by decide) (Nat.le_of_ble_eq_true rfl) rfl dL_law_490 h0 h1 ?_
  refine lw_al2 hX dL_law_493 ?_
  refine lw_arg hX 1 dL_law_494 dL_law_495 dL_law_497 dL_law_498 dL_law_499 rfl (by omega) hL ?_
  refine lw_arg hX 2 dL_law_500 dL_law_501 dL_law_503 dL_law_504 dL_law_505 rfl (by omega) hL ?_
  refine lw_cMI (As := [.int (xs (i + 1)), .int (xs (i + 2))]) (rest := [.int r]) hX (c_X10_city e2) ok_X10_city kwL_56 im_X10_city se_X10_city rfl rfl (by decide) (Nat.le_of_ble_eq_true rfl) rfl dL_law_506 h0 h1 ?_
  exact lw_eq (tgt := 1500) hX dL_law_509 (by decide) e3 (kk _ _ hC2)
theorem L_c7 (hX : LC X lc lm b L xs) (hi : i + 6 ≤ L) (hL : L ≤ 3072) (hC : Cp C M) (h0 : k ≤ 601024) (h1 : n ≤ 7293034) (kk : ∀ C' M', Cp C' M' → LW X lc lm q k n 1500 (lsL b lc lm q i) [] C' M' o) : LW X lc lm q k n 514 (lsL b lc lm q i) [] C M o := by
  obtain ⟨⟨r, C2⟩, e1, ⟨r2, M2⟩, e2, e3, hC2⟩ := q_moths hC (xs (i + 1))
  refine lw_al1 hX dL_law_514 ?_
  refine lw_arg hX 1 dL_law_515 dL_law_516 dL_law_518 dL_law_519 dL_law_520 rfl (by omega) hL ?_
  refine lw_cCI (As := [.int (xs (i + 1))]) (rest := []) hX (c_X9_moths e1) ok_X9_moths kwL_57 im_X9_moths se_X9_moths rfl rfl (by decide) (Nat.le_of_ble_eq_true rfl) rfl dL_law_521 h0 h1 ?_
  refine lw_al2 hX dL_law_524 ?_
  refine lw_arg hX 1 dL_law_525 dL_law_526 dL_law_528 dL_law_529 dL_law_530 rfl (by omega) hL ?_
  refine lw_cMI (As := [.int (xs (i + 1))]) (rest := [.int r]) hX (c_X10_moths e2) ok_X10_moths kwL_60 im_X10_moths se_X10_moths rfl rfl (by decide) (Nat.le_of_ble_eq_true rfl) rfl dL_law_531 h0 h1 ?_
  exact lw_eq (tgt := 1500) hX dL_law_534 (by decide) e3 (kk _ _ hC2)
theorem L_c8 (hX : LC X lc lm b L xs) (hi : i + 6 ≤ L) (hL : L ≤ 3072) (hC : Cp C M) (h0 : k ≤ 601024) (h1 : n ≤ 7293034) (kk : ∀ C' M', Cp C' M' → LW X lc lm q k n 1500 (lsL b lc lm q i) [] C' M' o) : LW X lc lm q k n 539 (lsL b lc lm q i) [] C M o := by
  obtain ⟨⟨r, C2⟩, e1, ⟨r2, M2⟩, e2, e3, hC2⟩ := q_law hC (xs (i + 1)) (xs (i + 2))
  refine lw_al1 hX dL_law_539 ?_
  refine lw_arg hX 1 dL_law_540 dL_law_541 dL_law_543 dL_law_544 dL_law_545 rfl (by omega) hL ?_
  refine lw_arg hX 2 dL_law_546 dL_law_547 dL_law_549 dL_law_550 dL_law_551 rfl (by omega) hL ?_
  refine lw_cCL (As := [.int (xs (i + 1)), .int (xs (i + 2))]) (rest := []) hX (c_X9_law e1) ok_X9_law kwL_61 im_X9_law se_X9_law rfl rfl (by decide) (Nat.le_of_ble_eq_true rfl) rfl dL_law_552 h0 h1 ?_
  refine lw_al2 hX dL_law_555 ?_
  refine lw_arg hX 1 dL_law_556 dL_law_557 dL_law_559 dL_law_560 dL_law_561 rfl (by omega) hL ?_
  refine lw_arg hX 2 dL_law_562 dL_law_563 dL_law_565 dL_law_566 dL_law_567 rfl (by omega) hL ?_
  refine lw_cML (As := [.int (xs (i + 1)), .int (xs (i + 2))]) (rest := [.long r]) hX (c_X10_law e2) ok_X10_law kwL_65 im_X10_law se_X10_law rfl rfl (by decide) (Nat.le_of_ble_eq_true rfl) rfl dL_law_568 h0 h1 ?_
  exact lw_leq (tgt := 1500) hX dL_law_571 dL_law_572 (by decide) e3 (kk _ _ hC2)
theorem L_c9 (hX : LC X lc lm b L xs) (hi : i + 6 ≤ L) (hL : L ≤ 3072) (hC : Cp C M) (h0 : k ≤ 601024) (h1 : n ≤ 7293034) (kk : ∀ C' M', Cp C' M' → LW X lc lm q k n 1500 (lsL b lc lm q i) [] C' M' o) : LW X lc lm q k n 577 (lsL b lc lm q i) [] C M o := by
  obtain ⟨⟨r, C2⟩, e1, ⟨r2, M2⟩, e2, e3, hC2⟩ := s_mend hC (xs (i + 1))
  refine lw_al1 hX dL_law_577 ?_
  refine lw_arg hX 1 dL_law_578 dL_law_579 dL_law_581 dL_law_582 dL_law_583 rfl (by omega) hL ?_
  refine lw_cCI (As := [.int (xs (i + 1))]) (rest := []) hX (c_X9_mend e1) ok_X9_mend kwL_66 im_X9_mend se_X9_mend rfl rfl (by decide) (Nat.le_of_ble_eq_true rfl) rfl dL_law_584 h0 h1 ?_
  refine lw_al2 hX dL_law_587 ?_
  refine lw_arg hX 1 dL_law_588 dL_law_589 dL_law_591 dL_law_592 dL_law_593 rfl (by omega) hL ?_
  refine lw_cMI (As := [.int (xs (i + 1))]) (rest := [.int r]) hX (c_X10_mend e2) ok_X10_mend kwL_69 im_X10_mend se_X10_mend rfl rfl (by decide) (Nat.le_of_ble_eq_true rfl) rfl dL_law_594 h0 h1 ?_
  exact lw_eq (tgt := 1500) hX dL_law_597 (by decide) e3 (kk _ _ hC2)
theorem L_c10 (hX : LC X lc lm b L xs) (hi : i + 6 ≤ L) (hL : L ≤ 3072) (hC : Cp C M) (h0 : k ≤ 601024) (h1 : n ≤ 7293034) (kk : ∀ C' M', Cp C' M' → LW X lc lm q k n 1500 (lsL b lc lm q i) [] C' M' o) : LW X lc lm q k n 602 (lsL b lc lm q i) [] C M o := by
  obtain ⟨⟨r, C2⟩, e1, ⟨r2, M2⟩, e2, e3, hC2⟩ := s_exchange hC (xs (i + 1)) (xs (i + 2))
  refine lw_al1 hX dL_law_602 ?_
  refine lw_arg hX 1 dL_law_603 dL_law_604 dL_law_606 dL_law_607 dL_law_608 rfl (by omega) hL ?_
  refine lw_arg hX 2 dL_law_609 dL_law_610 dL_law_612 dL_law_613 dL_law_614 rfl (by omega) hL ?_
  refine lw_cCI (As := [.int (xs (i + 1)), .int (xs (i + 2))]) (rest := []) hX (c_X9_exchange e1) ok_X9_exchange kwL_70 im_X9_exchange se_X9_exchange rfl rfl (by decide) (Nat.le_of_ble_eq_true rfl) rfl dL_law_615 h0 h1 ?_
  refine lw_al2 hX dL_law_618 ?_
  refine lw_arg hX 1 dL_law_619 dL_law_620 dL_law_622 dL_law_623 dL_law_624 rfl (by omega) hL ?_
  refine lw_arg hX 2 dL_law_625 dL_law_626 dL_law_628 dL_law_629 dL_law_630 rfl (by omega) hL ?_
  refine lw_cMI (As := [.int (xs (i + 1)), .int (xs (i + 2))]) (rest := [.int r]) hX (c_X10_exchange e2) ok_X10_exchange kwL_74 im_X10_exchange se_X10_exchange rfl rfl (by decide) (Nat.le_of_ble_eq_true rfl) rfl dL_law_631 h0 h1 ?_
  exact lw_eq (tgt := 1500) hX dL_law_634 (by decide) e3 (kk _ _ hC2)
theorem L_c11 (hX : LC X lc lm b L xs) (hi : i + 6 ≤ L) (hL : L ≤ 3072) (hC : Cp C M) (h0 : k ≤ 601024) (h1 : n ≤ 7293034) (kk : ∀ C' M', Cp C' M' → LW X lc lm q k n 1500 (lsL b lc lm q i) [] C' M' o) : LW X lc lm q k n 639 (lsL b lc lm q i) [] C M o := by
  obtain ⟨⟨r, C2⟩, e1, ⟨r2, M2⟩, e2, e3, hC2⟩ := s_give hC (xs (i + 1)) (xs (i + 2))
  refine lw_al1 hX dL_law_639 ?_
  refine lw_arg hX 1 dL_law_640 dL_law_641 dL_law_643 dL_law_644 dL_law_645 rfl (by omega) hL ?_
  refine lw_arg hX 2 dL_law_646 dL_law_647 dL_law_649 dL_law_650 dL_law_651 rfl (by omega) hL ?_
  refine lw_cCI (As := [.int (xs (i + 1)), .int (xs (i + 2))]) (rest := []) hX (c_X9_give e1) ok_X9_give kwL_75 im_X9_give se_X9_give rfl rfl (by decide) (Nat.le_of_ble_eq_true rfl) rfl dL_law_652 h0 h1 ?_
  refine lw_al2 hX dL_law_655 ?_
  refine lw_arg hX 1 dL_law_656 dL_law_657 dL_law_659 dL_law_660 dL_law_661 rfl (by omega) hL ?_
  refine lw_arg hX 2 dL_law_662 dL_law_663 dL_law_665 dL_law_666 dL_law_667 rfl (by omega) hL ?_
  refine lw_cMI (As := [.int (xs (i + 1)), .int (xs (i + 2))]) (rest := [.int r]) hX (c_X10_give e2) ok_X10_give kwL_78 im_X10_give se_X10_give rfl rfl (by decide) (Nat.le_of_ble_eq_true rfl) rfl dL_law_668 h0 h1 ?_
  exact lw_eq (tgt := 1500) hX dL_law_671 (by decide) e3 (kk _ _ hC2)
theorem L_c12 (hX : LC X lc lm b L xs) (hi : i + 6 ≤ L) (hL : L ≤ 3072) (hC : Cp C M) (h0 : k ≤ 601024) (h1 : n ≤ 7293034) (kk : ∀ C' M', Cp C' M' → LW X lc lm q k n 1500 (lsL b lc lm q i) [] C' M' o) : LW X lc lm q k n 676 (lsL b lc lm q i) [] C M o := by
  obtain ⟨⟨r, C2⟩, e1, ⟨r2, M2⟩, e2, e3, hC2⟩ := s_tea hC (xs (i + 1))
  refine lw_al1 hX dL_law_676 ?_
  refine lw_arg hX 1 dL_law_677 dL_law_678 dL_law_680 dL_law_681 dL_law_682 rfl (by omega) hL ?_
  refine lw_cCI (As := [.int (xs (i + 1))]) (rest := []) hX (c_X9_tea e1) ok_X9_tea kwL_79 im_X9_tea se_X9_tea rfl rfl (by decide) (Nat.le_of_ble_eq_true rfl) rfl dL_law_683 h0 h1 ?_
  refine lw_al2 hX dL_law_686 ?_
  refine lw_arg hX 1 dL_law_687 dL_law_688 dL_law_690 dL_law_691 dL_law_692 rfl (by omega) hL ?_
  refine lw_cMI (As := [.int (xs (i + 1))]) (rest := [.int r]) hX (c_X10_tea e2) ok_X10_tea kwL_82 im_X10_tea se_X10_tea rfl rfl (by decide) (Nat.le_of_ble_eq_true rfl) rfl dL_law_693 h0 h1 ?_
  exact lw_eq (tgt := 1500) hX dL_law_696 (by decide) e3 (kk _ _ hC2)
theorem L_c13 (hX : LC X lc lm b L xs) (hi : i + 6 ≤ L) (hL : L ≤ 3072) (hC : Cp C M) (h0 : k ≤ 601024) (h1 : n ≤ 7293034) (kk : ∀ C' M', Cp C' M' → LW X lc lm q k n 1500 (lsL b lc lm q i) [] C' M' o) : LW X lc lm q k n 701 (lsL b lc lm q i) [] C M o := by
  obtain ⟨⟨r, C2⟩, e1, ⟨r2, M2⟩, e2, e3, hC2⟩ := s_go hC (xs (i + 1))
  refine lw_al1 hX dL_law_701 ?_
  refine lw_arg hX 1 dL_law_702 dL_law_703 dL_law_705 dL_law_706 dL_law_707 rfl (by omega) hL ?_
  refine lw_cCI (As := [.int (xs (i + 1))]) (rest := []) hX (c_X9_go e1) ok_X9_go kwL_83 im_X9_go se_X9_go rfl rfl (by decide) (Nat.le_of_ble_eq_true rfl) rfl dL_law_708 h0 h1 ?_
  refine lw_al2 hX dL_law_711 ?_
  refine lw_arg hX 1 dL_law_712 dL_law_713 dL_law_715 dL_law_716 dL_law_717 rfl (by omega) hL ?_
  refine lw_cMI (As := [.int (xs (i + 1))]) (rest := [.int r]) hX (c_X10_go e2) ok_X10_go kwL_86 im_X10_go se_X10_go rfl rfl (by decide) (Nat.le_of_ble_eq_true rfl) rfl dL_law_718 h0 h1 ?_
  exact lw_eq (tgt := 1500) hX dL_law_721 (by decide) e3 (kk _ _ hC2)
theorem L_c14 (hX : LC X lc lm b L xs) (hi : i + 6 ≤ L) (hL : L ≤ 3072) (hC : Cp C M) (h0 : k ≤ 601024) (h1 : n ≤ 7293034) (kk : ∀ C' M', Cp C' M' → LW X lc lm q k n 1500 (lsL b lc lm q i) [] C' M' o) : LW X lc lm q k n 726 (lsL b lc lm q i) [] C M o := by
  obtain ⟨⟨r, C2⟩, e1, ⟨r2, M2⟩, e2, e3, hC2⟩ := q_ahead hC (xs (i + 1)) (xs (i + 2)) (xs (i + 3))
  refine lw_al1 hX dL_law_726 ?_
  refine lw_arg hX 1 dL_law_727 dL_law_728 dL_law_730 dL_law_731 dL_law_732 rfl (by omega) hL ?_
  refine lw_arg hX 2 dL_law_733 dL_law_734 dL_law_736 dL_law_737 dL_law_738 rfl (by omega) hL ?_
  refine lw_arg hX 3 dL_law_739 dL_law_740 dL_law_742 dL_law_743 dL_law_744 rfl (by omega) hL ?_
  refine lw_cCI (As := [.int (xs (i + 1)), .int (xs (i + 2)), .int (xs (i + 3))]) (rest := []) hX (c_X9_ahead e1) ok_X9_ahead kwL_87 im_X9_ahead se_X9_ahead rfl rfl (by decide) (Nat.le_of_ble_eq_true rfl) rfl dL_law_745 h0 h1 ?_
  refine lw_al2 hX dL_law_748 ?_
  refine lw_arg hX 1 dL_law_749 dL_law_750 dL_law_752 dL_law_753 dL_law_754 rfl (by omega) hL ?_
  refine lw_arg hX 2 dL_law_755 dL_law_756 dL_law_758 dL_law_759 dL_law_760 rfl (by omega) hL ?_
  refine lw_arg hX 3 dL_law_761 dL_law_762 dL_law_764 dL_law_765 dL_law_766 rfl (by omega) hL ?_
  refine lw_cMI (As := [.int (xs (i + 1)), .int (xs (i + 2)), .int (xs (i + 3))]) (rest := [.int r]) hX (c_X10_ahead e2) ok_X10_ahead kwL_91 im_X10_ahead se_X10_ahead rfl rfl (by decide) (Nat.le_of_ble_eq_true rfl) rfl dL_law_767 h0 h1 ?_
  exact lw_eq (tgt := 1500) hX dL_law_770 (by decide) e3 (kk _ _ hC2)
theorem L_c15 (hX : LC X lc lm b L xs) (hi : i + 6 ≤ L) (hL : L ≤ 3072) (hC : Cp C M) (h0 : k ≤ 601024) (h1 : n ≤ 7293034) (kk : ∀ C' M', Cp C' M' → LW X lc lm q k n 1500 (lsL b lc lm q i) [] C' M' o) : LW X lc lm q k n 775 (lsL b lc lm q i) [] C M o := by
  obtain ⟨⟨r, C2⟩, e1, ⟨r2, M2⟩, e2, e3, hC2⟩ := q_firstBreach hC 
  refine lw_al1 hX dL_law_775 ?_
  refine lw_cCI (As := []) (rest := []) hX (c_X9_firstBreach e1) ok_X9_firstBreach kwL_92 im_X9_firstBreach se_X9_firstBreach rfl rfl (by decide) (Nat.le_of_ble_eq_true rfl) rfl dL_law_776 h0 h1 ?_
  refine lw_al2 hX dL_law_779 ?_
  refine lw_cMI (As := []) (rest := [.int r]) hX (c_X10_firstBreach e2) ok_X10_firstBreach kwL_95 im_X10_firstBreach se_X10_firstBreach rfl rfl (by decide) (Nat.le_of_ble_eq_true rfl) rfl dL_law_780 h0 h1 ?_
  exact lw_eq (tgt := 1500) hX dL_law_783 (by decide) e3 (kk _ _ hC2)
theorem L_c16 (hX : LC X lc lm b L xs) (hi : i + 6 ≤ L) (hL : L ≤ 3072) (hC : Cp C M) (h0 : k ≤ 601024) (h1 : n ≤ 7293034) (kk : ∀ C' M', Cp C' M' → LW X lc lm q k n 1500 (lsL b lc lm q i) [] C' M' o) : LW X lc lm q k n 788 (lsL b lc lm q i) [] C M o := by
  obtain ⟨⟨r, C2⟩, e1, ⟨r2, M2⟩, e2, e3, hC2⟩ := q_quiet hC 
  refine lw_al1 hX dL_law_788 ?_
  refine lw_cCI (As := []) (rest := []) hX (c_X9_quiet e1) ok_X9_quiet kwL_96 im_X9_quiet se_X9_quiet rfl rfl (by decide) (Nat.le_of_ble_eq_true rfl) rfl dL_law_789 h0 h1 ?_
  refine lw_al2 hX dL_law_792 ?_
  refine lw_cMI (As := []) (rest := [.int r]) hX (c_X10_quiet e2) ok_X10_quiet kwL_99 im_X10_quiet se_X10_quiet rfl rfl (by decide) (Nat.le_of_ble_eq_true rfl) rfl dL_law_793 h0 h1 ?_
  exact lw_eq (tgt := 1500) hX dL_law_796 (by decide) e3 (kk _ _ hC2)
theorem L_c17 (hX : LC X lc lm b L xs) (hi : i + 6 ≤ L) (hL : L ≤ 3072) (hC : Cp C M) (h0 : k ≤ 601024) (h1 : n ≤ 7293034) (kk : ∀ C' M', Cp C' M' → LW X lc lm q k n 1500 (lsL b lc lm q i) [] C' M' o) : LW X lc lm q k n 801 (lsL b lc lm q i) [] C M o := by
  obtain ⟨⟨r, C2⟩, e1, ⟨r2, M2⟩, e2, e3, hC2⟩ := q_best hC (xs (i + 1)) (xs (i + 2)) (xs (i + 3))
  refine lw_al1 hX dL_law_801 ?_
  refine lw_arg hX 1 dL_law_802 dL_law_803 dL_law_805 dL_law_806 dL_law_807 rfl (by omega) hL ?_
  refine lw_arg hX 2 dL_law_808 dL_law_809 dL_law_811 dL_law_812 dL_law_813 rfl (by omega) hL ?_
  refine lw_arg hX 3 dL_law_814 dL_law_815 dL_law_817 dL_law_818 dL_law_819 rfl (by omega) hL ?_
  refine lw_cCI (As := [.int (xs (i + 1)), .int (xs (i + 2)), .int (xs (i + 3))]) (rest := []) hX (c_X9_best e1) ok_X9_best kwL_100 im_X9_best se_X9_best rfl rfl (by decide) (Nat.le_of_ble_eq_true rfl) rfl dL_law_820 h0 h1 ?_
  refine lw_al2 hX dL_law_823 ?_
  refine lw_arg hX 1 dL_law_824 dL_law_825 dL_law_827 dL_law_828 dL_law_829 rfl (by omega) hL ?_
  refine lw_arg hX 2 dL_law_830 dL_law_831 dL_law_833 dL_law_834 dL_law_835 rfl (by omega) hL ?_
  refine lw_arg hX 3 dL_law_836 dL_law_837 dL_law_839 dL_law_840 dL_law_841 rfl (by omega) hL ?_
  refine lw_cMI (As := [.int (xs (i + 1)), .int (xs (i + 2)), .int (xs (i + 3))]) (rest := [.int r]) hX (c_X10_best e2) ok_X10_best kwL_103 im_X10_best se_X10_best rfl rfl (by decide) (Nat.le_of_ble_eq_true rfl) rfl dL_law_842 h0 h1 ?_
  exact lw_eq (tgt := 1500) hX dL_law_845 (by decide) e3 (kk _ _ hC2)
theorem L_c18 (hX : LC X lc lm b L xs) (hi : i + 6 ≤ L) (hL : L ≤ 3072) (hC : Cp C M) (h0 : k ≤ 601024) (h1 : n ≤ 7293034) (kk : ∀ C' M', Cp C' M' → LW X lc lm q k n 1500 (lsL b lc lm q i) [] C' M' o) : LW X lc lm q k n 850 (lsL b lc lm q i) [] C M o := by
  obtain ⟨⟨r, C2⟩, e1, ⟨r2, M2⟩, e2, e3, hC2⟩ := q_enough hC (xs (i + 1)) (xs (i + 2))
  refine lw_al1 hX dL_law_850 ?_
  refine lw_arg hX 1 dL_law_851 dL_law_852 dL_law_854 dL_law_855 dL_law_856 rfl (by omega) hL ?_
  refine lw_arg hX 2 dL_law_857 dL_law_858 dL_law_860 dL_law_861 dL_law_862 rfl (by omega) hL ?_
  refine lw_cCI (As := [.int (xs (i + 1)), .int (xs (i + 2))]) (rest := []) hX (c_X9_enough e1) ok_X9_enough kwL_104 im_X9_enough se_X9_enough rfl rfl (by decide) (Nat.le_of_ble_eq_true rfl) rfl dL_law_863 h0 h1 ?_
  refine lw_al2 hX dL_law_866 ?_
  refine lw_arg hX 1 dL_law_867 dL_law_868 dL_law_870 dL_law_871 dL_law_872 rfl (by omega) hL ?_
  refine lw_arg hX 2 dL_law_873 dL_law_874 dL_law_876 dL_law_877 dL_law_878 rfl (by omega) hL ?_
  refine lw_cMI (As := [.int (xs (i + 1)), .int (xs (i + 2))]) (rest := [.int r]) hX (c_X10_enough e2) ok_X10_enough kwL_107 im_X10_enough se_X10_enough rfl rfl (by decide) (Nat.le_of_ble_eq_true rfl) rfl dL_law_879 h0 h1 ?_
  exact lw_eq (tgt := 1500) hX dL_law_882 (by decide) e3 (kk _ _ hC2)
theorem L_c19 (hX : LC X lc lm b L xs) (hi : i + 6 ≤ L) (hL : L ≤ 3072) (hC : Cp C M) (h0 : k ≤ 601024) (h1 : n ≤ 7293034) (kk : ∀ C' M', Cp C' M' → LW X lc lm q k n 1500 (lsL b lc lm q i) [] C' M' o) : LW X lc lm q k n 887 (lsL b lc lm q i) [] C M o := by
  obtain ⟨⟨r, C2⟩, e1, ⟨r2, M2⟩, e2, e3, hC2⟩ := q_nursing hC (xs (i + 1)) (xs (i + 2)) (xs (i + 3))
  refine lw_al1 hX dL_law_887 ?_
  refine lw_arg hX 1 dL_law_888 dL_law_889 dL_law_891 dL_law_892 dL_law_893 rfl (by omega) hL ?_
  refine lw_arg hX 2 dL_law_894 dL_law_895 dL_law_897 dL_law_898 dL_law_899 rfl (by omega) hL ?_
  refine lw_arg hX 3 dL_law_900 dL_law_901 dL_law_903 dL_law_904 dL_law_905 rfl (by omega) hL ?_
  refine lw_cCI (As := [.int (xs (i + 1)), .int (xs (i + 2)), .int (xs (i + 3))]) (rest := []) hX (c_X9_nursing e1) ok_X9_nursing kwL_108 im_X9_nursing se_X9_nursing rfl rfl (by decide) (Nat.le_of_ble_eq_true rfl) rfl dL_law_906 h0 h1 ?_
  refine lw_al2 hX dL_law_909 ?_
  refine lw_arg hX 1 dL_law_910 dL_law_911 dL_law_913 dL_law_914 dL_law_915 rfl (by omega) hL ?_
  refine lw_arg hX 2 dL_law_916 dL_law_917 dL_law_919 dL_law_920 dL_law_921 rfl (by omega) hL ?_
  refine lw_arg hX 3 dL_law_922 dL_law_923 dL_law_925 dL_law_926 dL_law_927 rfl (by omega) hL ?_
  refine lw_cMI (As := [.int (xs (i + 1)), .int (xs (i + 2)), .int (xs (i + 3))]) (rest := [.int r]) hX (c_X10_nursing e2) ok_X10_nursing kwL_111 im_X10_nursing se_X10_nursing rfl rfl (by decide) (Nat.le_of_ble_eq_true rfl) rfl dL_law_928 h0 h1 ?_
  exact lw_eq (tgt := 1500) hX dL_law_931 (by decide) e3 (kk _ _ hC2)
theorem L_c20 (hX : LC X lc lm b L xs) (hi : i + 6 ≤ L) (hL : L ≤ 3072) (hC : Cp C M) (h0 : k ≤ 601024) (h1 : n ≤ 7293034) (kk : ∀ C' M', Cp C' M' → LW X lc lm q k n 1500 (lsL b lc lm q i) [] C' M' o) : LW X lc lm q k n 936 (lsL b lc lm q i) [] C M o := by
  obtain ⟨⟨r, C2⟩, e1, ⟨r2, M2⟩, e2, e3, hC2⟩ := q_rests hC 
  refine lw_al1 hX dL_law_936 ?_
  refine lw_cCI (As := []) (rest := []) hX (c_X9_rests e1) ok_X9_rests kwL_112 im_X9_rests se_X9_rests rfl rfl (by decide) (Nat.le_of_ble_eq_true rfl) rfl dL_law_937 h0 h1 ?_
  refine lw_al2 hX dL_law_940 ?_
  refine lw_cMI (As := []) (rest := [.int r]) hX (c_X10_rests e2) ok_X10_rests kwL_115 im_X10_rests se_X10_rests rfl rfl (by decide) (Nat.le_of_ble_eq_true rfl) rfl dL_law_941 h0 h1 ?_
  exact lw_eq (tgt := 1500) hX dL_law_944 (by decide) e3 (kk _ _ hC2)
theorem L_c21 (hX : LC X lc lm b L xs) (hi : i + 6 ≤ L) (hL : L ≤ 3072) (hC : Cp C M) (h0 : k ≤ 601024) (h1 : n ≤ 7293034) (kk : ∀ C' M', Cp C' M' → LW X lc lm q k n 1500 (lsL b lc lm q i) [] C' M' o) : LW X lc lm q k n 949 (lsL b lc lm q i) [] C M o := by
  obtain ⟨⟨r, C2⟩, e1, ⟨r2, M2⟩, e2, e3, hC2⟩ := q_rest hC (xs (i + 1))
  refine lw_al1 hX dL_law_949 ?_
  refine lw_arg hX 1 dL_law_950 dL_law_951 dL_law_953 dL_law_954 dL_law_955 rfl (by omega) hL ?_
  refine lw_cCI (As := [.int (xs (i + 1))]) (rest := []) hX (c_X9_rest e1) ok_X9_rest kwL_116 im_X9_rest se_X9_rest rfl rfl (by decide) (Nat.le_of_ble_eq_true rfl) rfl dL_law_956 h0 h1 ?_
  refine lw_al2 hX dL_law_959 ?_
  refine lw_arg hX 1 dL_law_960 dL_law_961 dL_law_963 dL_law_964 dL_law_965 rfl (by omega) hL ?_
  refine lw_cMI (As := [.int (xs (i + 1))]) (rest := [.int r]) hX (c_X10_rest e2) ok_X10_rest kwL_119 im_X10_rest se_X10_rest rfl rfl (by decide) (Nat.le_of_ble_eq_true rfl) rfl dL_law_966 h0 h1 ?_
  exact lw_eq (tgt := 1500) hX dL_law_969 (by decide) e3 (kk _ _ hC2)
theorem L_c22 (hX : LC X lc lm b L xs) (hi : i + 6 ≤ L) (hL : L ≤ 3072) (hC : Cp C M) (h0 : k ≤ 601024) (h1 : n ≤ 7293034) (kk : ∀ C' M', Cp C' M' → LW X lc lm q k n 1500 (lsL b lc lm q i) [] C' M' o) : LW X lc lm q k n 974 (lsL b lc lm q i) [] C M o := by
  obtain ⟨⟨r, C2⟩, e1, ⟨r2, M2⟩, e2, e3, hC2⟩ := q_whole hC (xs (i + 1)) (xs (i + 2)) (xs (i + 3))
  refine lw_al1 hX dL_law_974 ?_
  refine lw_arg hX 1 dL_law_975 dL_law_976 dL_law_978 dL_law_979 dL_law_980 rfl (by omega) hL ?_
  refine lw_arg hX 2 dL_law_981 dL_law_982 dL_law_984 dL_law_985 dL_law_986 rfl (by omega) hL ?_
  refine lw_arg hX 3 dL_law_987 dL_law_988 dL_law_990 dL_law_991 dL_law_992 rfl (by omega) hL ?_
  refine lw_cCL (As := [.int (xs (i + 1)), .int (xs (i + 2)), .int (xs (i + 3))]) (rest := []) hX (c_X9_whole e1) ok_X9_whole kwL_120 im_X9_whole se_X9_whole rfl rfl (by decide) (Nat.le_of_ble_eq_true rfl) rfl dL_law_993 h0 h1 ?_
  refine lw_al2 hX dL_law_996 ?_
  refine lw_arg hX 1 dL_law_997 dL_law_998 dL_law_1000 dL_law_1001 dL_law_1002 rfl (by omega) hL ?_
  refine lw_arg hX 2 dL_law_1003 dL_law_1004 dL_law_1006 dL_law_1007 dL_law_1008 rfl (by omega) hL ?_
  refine lw_arg hX 3 dL_law_1009 dL_law_1010 dL_law_1012 dL_law_1013 dL_law_1014 rfl (by omega) hL ?_
  refine lw_cML (As := [.int (xs (i + 1)), .int (xs (i + 2)), .int (xs (i + 3))]) (rest := [.long r]) hX (c_X10_whole e2) ok_X10_whole kwL_124 im_X10_whole se_X10_whole rfl rfl (by decide) (Nat.le_of_ble_eq_true rfl) rfl dL_law_1015 h0 h1 ?_
  exact lw_leq (tgt := 1500) hX dL_law_1018 dL_law_1019 (by decide) e3 (kk _ _ hC2)
theorem L_c23 (hX : LC X lc lm b L xs) (hi : i + 6 ≤ L) (hL : L ≤ 3072) (hC : Cp C M) (h0 : k ≤ 601024) (h1 : n ≤ 7293034) (kk : ∀ C' M', Cp C' M' → LW X lc lm q k n 1500 (lsL b lc lm q i) [] C' M' o) : LW X lc lm q k n 1024 (lsL b lc lm q i) [] C M o := by
  obtain ⟨⟨r, C2⟩, e1, ⟨r2, M2⟩, e2, e3, hC2⟩ := q_lists hC (xs (i + 1)) (xs (i + 2)) (xs (i + 3))
  refine lw_al1 hX dL_law_1024 ?_
  refine lw_arg hX 1 dL_law_1025 dL_law_1026 dL_law_1028 dL_law_1029 dL_law_1030 rfl (by omega) hL ?_
  refine lw_arg hX 2 dL_law_1031 dL_law_1032 dL_law_1034 dL_law_1035 dL_law_1036 rfl (by omega) hL ?_
  refine lw_arg hX 3 dL_law_1037 dL_law_1038 dL_law_1040 dL_law_1041 dL_law_1042 rfl (by omega) hL ?_
  refine lw_cCI (As := [.int (xs (i + 1)), .int (xs (i + 2)), .int (xs (i + 3))]) (rest := []) hX (c_X9_lists e1) ok_X9_lists kwL_125 im_X9_lists se_X9_lists rfl rfl (by decide) (Nat.le_of_ble_eq_true rfl) rfl dL_law_1043 h0 h1 ?_
  refine lw_al2 hX dL_law_1046 ?_
  refine lw_arg hX 1 dL_law_1047 dL_law_1048 dL_law_1050 dL_law_1051 dL_law_1052 rfl (by omega) hL ?_
  refine lw_arg hX 2 dL_law_1053 dL_law_1054 dL_law_1056 dL_law_1057 dL_law_1058 rfl (by omega) hL ?_
  refine lw_arg hX 3 dL_law_1059 dL_law_1060 dL_law_1062 dL_law_1063 dL_law_1064 rfl (by omega) hL ?_
  refine lw_cMI (As := [.int (xs (i + 1)), .int (xs (i + 2)), .int (xs (i + 3))]) (rest := [.int r]) hX (c_X10_lists e2) ok_X10_lists kwL_128 im_X10_lists se_X10_lists rfl rfl (by decide) (Nat.le_of_ble_eq_true rfl) rfl dL_law_1065 h0 h1 ?_
  exact lw_eq (tgt := 1500) hX dL_law_1068 (by decide) e3 (kk _ _ hC2)
theorem L_c24 (hX : LC X lc lm b L xs) (hi : i + 6 ≤ L) (hL : L ≤ 3072) (hC : Cp C M) (h0 : k ≤ 601024) (h1 : n ≤ 7293034) (kk : ∀ C' M', Cp C' M' → LW X lc lm q k n 1500 (lsL b lc lm q i) [] C' M' o) : LW X lc lm q k n 1073 (lsL b lc lm q i) [] C M o := by
  obtain ⟨⟨r, C2⟩, e1, ⟨r2, M2⟩, e2, e3, hC2⟩ := q_stays hC 
  refine lw_al1 hX dL_law_1073 ?_
  refine lw_cCI (As := []) (rest := []) hX (c_X9_stays e1) ok_X9_stays kwL_129 im_X9_stays se_X9_stays rfl rfl (by decide) (Nat.le_of_ble_eq_true rfl) rfl dL_law_1074 h0 h1 ?_
  refine lw_al2 hX dL_law_1077 ?_
  refine lw_cMI (As := []) (rest := [.int r]) hX (c_X10_stays e2) ok_X10_stays kwL_132 im_X10_stays se_X10_stays rfl rfl (by decide) (Nat.le_of_ble_eq_true rfl) rfl dL_law_1078 h0 h1 ?_
  exact lw_eq (tgt := 1500) hX dL_law_1081 (by decide) e3 (kk _ _ hC2)
theorem L_c25 (hX : LC X lc lm b L xs) (hi : i + 6 ≤ L) (hL : L ≤ 3072) (hC : Cp C M) (h0 : k ≤ 601024) (h1 : n ≤ 7293034) (kk : ∀ C' M', Cp C' M' → LW X lc lm q k n 1500 (lsL b lc lm q i) [] C' M' o) : LW X lc lm q k n 1086 (lsL b lc lm q i) [] C M o := by
  obtain ⟨⟨r, C2⟩, e1, ⟨r2, M2⟩, e2, e3, hC2⟩ := q_worst hC 
  refine lw_al1 hX dL_law_1086 ?_
  refine lw_cCI (As := []) (rest := []) hX (c_X9_worst e1) ok_X9_worst kwL_133 im_X9_worst se_X9_worst rfl rfl (by decide) (Nat.le_of_ble_eq_true rfl) rfl dL_law_1087 h0 h1 ?_
  refine lw_al2 hX dL_law_1090 ?_
  refine lw_cMI (As := []) (rest := [.int r]) hX (c_X10_worst e2) ok_X10_worst kwL_136 im_X10_worst se_X10_worst rfl rfl (by decide) (Nat.le_of_ble_eq_true rfl) rfl dL_law_1091 h0 h1 ?_
  exact lw_eq (tgt := 1500) hX dL_law_1094 (by decide) e3 (kk _ _ hC2)
theorem L_c26 (hX : LC X lc lm b L xs) (hi : i + 6 ≤ L) (hL : L ≤ 3072) (hC : Cp C M) (h0 : k ≤ 601024) (h1 : n ≤ 7293034) (kk : ∀ C' M', Cp C' M' → LW X lc lm q k n 1500 (lsL b lc lm q i) [] C' M' o) : LW X lc lm q k n 1099 (lsL b lc lm q i) [] C M o := by
  obtain ⟨⟨r, C2⟩, e1, ⟨r2, M2⟩, e2, e3, hC2⟩ := q_until hC (xs (i + 1)) (xs (i + 2))
  refine lw_al1 hX dL_law_1099 ?_
  refine lw_arg hX 1 dL_law_1100 dL_law_1101 dL_law_1103 dL_law_1104 dL_law_1105 rfl (by omega) hL ?_
  refine lw_arg hX 2 dL_law_1106 dL_law_1107 dL_law_1109 dL_law_1110 dL_law_1111 rfl (by omega) hL ?_
  refine lw_cCI (As := [.int (xs (i + 1)), .int (xs (i + 2))]) (rest := []) hX (c_X9_until e1) ok_X9_until kwL_137 im_X9_until se_X9_until rfl rfl (by decide) (Nat.le_of_ble_eq_true rfl) rfl dL_law_1112 h0 h1 ?_
  refine lw_al2 hX dL_law_1115 ?_
  refine lw_arg hX 1 dL_law_1116 dL_law_1117 dL_law_1119 dL_law_1120 dL_law_1121 rfl (by omega) hL ?_
  refine lw_arg hX 2 dL_law_1122 dL_law_1123 dL_law_1125 dL_law_1126 dL_law_1127 rfl (by omega) hL ?_
  refine lw_cMI (As := [.int (xs (i + 1)), .int (xs (i + 2))]) (rest := [.int r]) hX (c_X10_until e2) ok_X10_until kwL_140 im_X10_until se_X10_until rfl rfl (by decide) (Nat.le_of_ble_eq_true rfl) rfl dL_law_1128 h0 h1 ?_
  exact lw_eq (tgt := 1500) hX dL_law_1131 (by decide) e3 (kk _ _ hC2)
theorem L_c27 (hX : LC X lc lm b L xs) (hi : i + 6 ≤ L) (hL : L ≤ 3072) (hC : Cp C M) (h0 : k ≤ 601024) (h1 : n ≤ 7293034) (kk : ∀ C' M', Cp C' M' → LW X lc lm q k n 1500 (lsL b lc lm q i) [] C' M' o) : LW X lc lm q k n 1136 (lsL b lc lm q i) [] C M o := by
  obtain ⟨⟨r, C2⟩, e1, ⟨r2, M2⟩, e2, e3, hC2⟩ := q_safest hC (xs (i + 1))
  refine lw_al1 hX dL_law_1136 ?_
  refine lw_arg hX 1 dL_law_1137 dL_law_1138 dL_law_1140 dL_law_1141 dL_law_1142 rfl (by omega) hL ?_
  refine lw_cCI (As := [.int (xs (i + 1))]) (rest := []) hX (c_X9_safest e1) ok_X9_safest kwL_141 im_X9_safest se_X9_safest rfl rfl (by decide) (Nat.le_of_ble_eq_true rfl) rfl dL_law_1143 h0 h1 ?_
  refine lw_al2 hX dL_law_1146 ?_
  refine lw_arg hX 1 dL_law_1147 dL_law_1148 dL_law_1150 dL_law_1151 dL_law_1152 rfl (by omega) hL ?_
  refine lw_cMI (As := [.int (xs (i + 1))]) (rest := [.int r]) hX (c_X10_safest e2) ok_X10_safest kwL_144 im_X10_safest se_X10_safest rfl rfl (by decide) (Nat.le_of_ble_eq_true rfl) rfl dL_law_1153 h0 h1 ?_
  exact lw_eq (tgt := 1500) hX dL_law_1156 (by decide) e3 (kk _ _ hC2)
theorem L_c28 (hX : LC X lc lm b L xs) (hi : i + 6 ≤ L) (hL : L ≤ 3072) (hC : Cp C M) (h0 : k ≤ 601024) (h1 : n ≤ 7293034) (kk : ∀ C' M', Cp C' M' → LW X lc lm q k n 1500 (lsL b lc lm q i) [] C' M' o) : LW X lc lm q k n 1161 (lsL b lc lm q i) [] C M o := by
  obtain ⟨⟨r, C2⟩, e1, ⟨r2, M2⟩, e2, e3, hC2⟩ := q_answersOn hC (xs (i + 1))
  refine lw_al1 hX dL_law_1161 ?_
  refine lw_arg hX 1 dL_law_1162 dL_law_1163 dL_law_1165 dL_law_1166 dL_law_1167 rfl (by omega) hL ?_
  refine lw_cCI (As := [.int (xs (i + 1))]) (rest := []) hX (c_X9_answersOn e1) ok_X9_answersOn kwL_145 im_X9_answersOn se_X9_answersOn rfl rfl (by decide) (Nat.le_of_ble_eq_true rfl) rfl dL_law_1168 h0 h1 ?_
  refine lw_al2 hX dL_law_1171 ?_
  refine lw_arg hX 1 dL_law_1172 dL_law_1173 dL_law_1175 dL_law_1176 dL_law_1177 rfl (by omega) hL ?_
  refine lw_cMI (As := [.int (xs (i + 1))]) (rest := [.int r]) hX (c_X10_answersOn e2) ok_X10_answersOn kwL_148 im_X10_answersOn se_X10_answersOn rfl rfl (by decide) (Nat.le_of_ble_eq_true rfl) rfl dL_law_1178 h0 h1 ?_
  exact lw_eq (tgt := 1500) hX dL_law_1181 (by decide) e3 (kk _ _ hC2)
theorem L_c30 (hX : LC X lc lm b L xs) (hi : i + 6 ≤ L) (hL : L ≤ 3072) (hC : Cp C M) (h0 : k ≤ 601024) (h1 : n ≤ 7293034) (kk : ∀ C' M', Cp C' M' → LW X lc lm q k n 1500 (lsL b lc lm q i) [] C' M' o) : LW X lc lm q k n 1263 (lsL b lc lm q i) [] C M o := by
  obtain ⟨⟨r, C2⟩, e1, ⟨r2, M2⟩, e2, e3, hC2⟩ := s_out hC (xs (i + 1))
  refine lw_al1 hX dL_law_1263 ?_
  refine lw_arg hX 1 dL_law_1264 dL_law_1265 dL_law_1267 dL_law_1268 dL_law_1269 rfl (by omega) hL ?_
  refine lw_cCI (As := [.int (xs (i + 1))]) (rest := []) hX (c_X9_out e1) ok_X9_out kwL_154 im_X9_out se_X9_out rfl rfl (by decide) (Nat.le_of_ble_eq_true rfl) rfl dL_law_1270 h0 h1 ?_
  refine lw_al2 hX dL_law_1273 ?_
  refine lw_arg hX 1 dL_law_1274 dL_law_1275 dL_law_1277 dL_law_1278 dL_law_1279 rfl (by omega) hL ?_
  refine lw_cMI (As := [.int (xs (i + 1))]) (rest := [.int r]) hX (c_X10_out e2) ok_X10_out kwL_157 im_X10_out se_X10_out rfl rfl (by decide) (Nat.le_of_ble_eq_true rfl) rfl dL_law_1280 h0 h1 ?_
  exact lw_eq (tgt := 1500) hX dL_law_1283 (by decide) e3 (kk _ _ hC2)
theorem L_c31 (hX : LC X lc lm b L xs) (hi : i + 6 ≤ L) (hL : L ≤ 3072) (hC : Cp C M) (h0 : k ≤ 601024) (h1 : n ≤ 7293034) (kk : ∀ C' M', Cp C' M' → LW X lc lm q k n 1500 (lsL b lc lm q i) [] C' M' o) : LW X lc lm q k n 1288 (lsL b lc lm q i) [] C M o := by
  obtain ⟨⟨r, C2⟩, e1, ⟨r2, M2⟩, e2, e3, hC2⟩ := s_known hC (xs (i + 1))
  refine lw_al1 hX dL_law_1288 ?_
  refine lw_arg hX 1 dL_law_1289 dL_law_1290 dL_law_1292 dL_law_1293 dL_law_1294 rfl (by omega) hL ?_
  refine lw_cCI (As := [.int (xs (i + 1))]) (rest := []) hX (c_X9_known e1) ok_X9_known kwL_158 im_X9_known se_X9_known rfl rfl (by decide) (Nat.le_of_ble_eq_true rfl) rfl dL_law_1295 h0 h1 ?_
  refine lw_al2 hX dL_law_1298 ?_
  refine lw_arg hX 1 dL_law_1299 dL_law_1300 dL_law_1302 dL_law_1303 dL_law_1304 rfl (by omega) hL ?_
  refine lw_cMI (As := [.int (xs (i + 1))]) (rest := [.int r]) hX (c_X10_known e2) ok_X10_known kwL_162 im_X10_known se_X10_known rfl rfl (by decide) (Nat.le_of_ble_eq_true rfl) rfl dL_law_1305 h0 h1 ?_
  exact lw_eq (tgt := 1500) hX dL_law_1308 (by decide) e3 (kk _ _ hC2)
theorem L_c32 (hX : LC X lc lm b L xs) (hi : i + 6 ≤ L) (hL : L ≤ 3072) (hC : Cp C M) (h0 : k ≤ 601024) (h1 : n ≤ 7293034) (kk : ∀ C' M', Cp C' M' → LW X lc lm q k n 1500 (lsL b lc lm q i) [] C' M' o) : LW X lc lm q k n 1313 (lsL b lc lm q i) [] C M o := by
  obtain ⟨⟨r, C2⟩, e1, ⟨r2, M2⟩, e2, e3, hC2⟩ := q_cares hC (xs (i + 1))
  refine lw_al1 hX dL_law_1313 ?_
  refine lw_arg hX 1 dL_law_1314 dL_law_1315 dL_law_1317 dL_law_1318 dL_law_1319 rfl (by omega) hL ?_
  refine lw_cCI (As := [.int (xs (i + 1))]) (rest := []) hX (c_X9_cares e1) ok_X9_cares kwL_163 im_X9_cares se_X9_cares rfl rfl (by decide) (Nat.le_of_ble_eq_true rfl) rfl dL_law_1320 h0 h1 ?_
  refine lw_al2 hX dL_law_1323 ?_
  refine lw_arg hX 1 dL_law_1324 dL_law_1325 dL_law_1327 dL_law_1328 dL_law_1329 rfl (by omega) hL ?_
  refine lw_cMI (As := [.int (xs (i + 1))]) (rest := [.int r]) hX (c_X10_cares e2) ok_X10_cares kwL_166 im_X10_cares se_X10_cares rfl rfl (by decide) (Nat.le_of_ble_eq_true rfl) rfl dL_law_1330 h0 h1 ?_
  exact lw_eq (tgt := 1500) hX dL_law_1333 (by decide) e3 (kk _ _ hC2)
theorem L_c33 (hX : LC X lc lm b L xs) (hi : i + 6 ≤ L) (hL : L ≤ 3072) (hC : Cp C M) (h0 : k ≤ 601024) (h1 : n ≤ 7293034) (kk : ∀ C' M', Cp C' M' → LW X lc lm q k n 1500 (lsL b lc lm q i) [] C' M' o) : LW X lc lm q k n 1338 (lsL b lc lm q i) [] C M o := by
  obtain ⟨⟨r, C2⟩, e1, ⟨r2, M2⟩, e2, e3, hC2⟩ := q_chance hC (xs (i + 1)) (xs (i + 2)) (xs (i + 3))
  refine lw_al1 hX dL_law_1338 ?_
  refine lw_arg hX 1 dL_law_1339 dL_law_1340 dL_law_1342 dL_law_1343 dL_law_1344 rfl (by omega) hL ?_
  refine lw_arg hX 2 dL_law_1345 dL_law_1346 dL_law_1348 dL_law_1349 dL_law_1350 rfl (by omega) hL ?_
  refine lw_arg hX 3 dL_law_1351 dL_law_1352 dL_law_1354 dL_law_1355 dL_law_1356 rfl (by omega) hL ?_
  refine lw_cCI (As := [.int (xs (i + 1)), .int (xs (i + 2)), .int (xs (i + 3))]) (rest := []) hX (c_X9_chance e1) ok_X9_chance kwL_167 im_X9_chance se_X9_chance rfl rfl (by decide) (Nat.le_of_ble_eq_true rfl) rfl dL_law_1357 h0 h1 ?_
  refine lw_al2 hX dL_law_1360 ?_
  refine lw_arg hX 1 dL_law_1361 dL_law_1362 dL_law_1364 dL_law_1365 dL_law_1366 rfl (by omega) hL ?_
  refine lw_arg hX 2 dL_law_1367 dL_law_1368 dL_law_1370 dL_law_1371 dL_law_1372 rfl (by omega) hL ?_
  refine lw_arg hX 3 dL_law_1373 dL_law_1374 dL_law_1376 dL_law_1377 dL_law_1378 rfl (by omega) hL ?_
  refine lw_cMI (As := [.int (xs (i + 1)), .int (xs (i + 2)), .int (xs (i + 3))]) (rest := [.int r]) hX (c_X10_chance e2) ok_X10_chance kwL_170 im_X10_chance se_X10_chance rfl rfl (by decide) (Nat.le_of_ble_eq_true rfl) rfl dL_law_1379 h0 h1 ?_
  exact lw_eq (tgt := 1500) hX dL_law_1382 (by decide) e3 (kk _ _ hC2)
theorem L_c34 (hX : LC X lc lm b L xs) (hi : i + 6 ≤ L) (hL : L ≤ 3072) (hC : Cp C M) (h0 : k ≤ 601024) (h1 : n ≤ 7293034) (kk : ∀ C' M', Cp C' M' → LW X lc lm q k n 1500 (lsL b lc lm q i) [] C' M' o) : LW X lc lm q k n 1387 (lsL b lc lm q i) [] C M o := by
  obtain ⟨⟨r, C2⟩, e1, ⟨r2, M2⟩, e2, e3, hC2⟩ := q_tried hC (xs (i + 1)) (xs (i + 2)) (xs (i + 3))
  refine lw_al1 hX dL_law_1387 ?_
  refine lw_arg hX 1 dL_law_1388 dL_law_1389 dL_law_1391 dL_law_1392 dL_law_1393 rfl (by omega) hL ?_
  refine lw_arg hX 2 dL_law_1394 dL_law_1395 dL_law_1397 dL_law_1398 dL_law_1399 rfl (by omega) hL ?_
  refine lw_arg hX 3 dL_law_1400 dL_law_1401 dL_law_1403 dL_law_1404 dL_law_1405 rfl (by omega) hL ?_
  refine lw_cCI (As := [.int (xs (i + 1)), .int (xs (i + 2)), .int (xs (i + 3))]) (rest := []) hX (c_X9_tried e1) ok_X9_tried kwL_171 im_X9_tried se_X9_tried rfl rfl (by decide) (Nat.le_of_ble_eq_true rfl) rfl dL_law_1406 h0 h1 ?_
  refine lw_al2 hX dL_law_1409 ?_
  refine lw_arg hX 1 dL_law_1410 dL_law_1411 dL_law_1413 dL_law_1414 dL_law_1415 rfl (by omega) hL ?_
  refine lw_arg hX 2 dL_law_1416 dL_law_1417 dL_law_1419 dL_law_1420 dL_law_1421 rfl (by omega) hL ?_
  refine lw_arg hX 3 dL_law_1422 dL_law_1423 dL_law_1425 dL_law_1426 dL_law_1427 rfl (by omega) hL ?_
  refine lw_cMI (As := [.int (xs (i + 1)), .int (xs (i + 2)), .int (xs (i + 3))]) (rest := [.int r]) hX (c_X10_tried e2) ok_X10_tried kwL_174 im_X10_tried se_X10_tried rfl rfl (by decide) (Nat.le_of_ble_eq_true rfl) rfl dL_law_1428 h0 h1 ?_
  exact lw_eq (tgt := 1500) hX dL_law_1431 (by decide) e3 (kk _ _ hC2)
theorem L_c35 (hX : LC X lc lm b L xs) (hi : i + 6 ≤ L) (hL : L ≤ 3072) (hC : Cp C M) (h0 : k ≤ 601024) (h1 : n ≤ 7293034) (kk : ∀ C' M', Cp C' M' → LW X lc lm q k n 1500 (lsL b lc lm q i) [] C' M' o) : LW X lc lm q k n 1436 (lsL b lc lm q i) [] C M o := by
  obtain ⟨⟨r, C2⟩, e1, ⟨r2, M2⟩, e2, e3, hC2⟩ := s_undo hC 
  refine lw_al1 hX dL_law_1436 ?_
  refine lw_cCI (As := []) (rest := []) hX (c_X9_undo e1) ok_X9_undo kwL_175 im_X9_undo se_X9_undo rfl rfl (by decide) (Nat.le_of_ble_eq_true rfl) rfl dL_law_1437 h0 h1 ?_
  refine lw_al2 hX dL_law_1440 ?_
  refine lw_cMI (As := []) (rest := [.int r]) hX (c_X10_undo e2) ok_X10_undo kwL_178 im_X10_undo se_X10_undo rfl rfl (by decide) (Nat.le_of_ble_eq_true rfl) rfl dL_law_1441 h0 h1 ?_
  exact lw_eq (tgt := 1500) hX dL_law_1444 (by decide) e3 (kk _ _ hC2)
theorem L_c36 (hX : LC X lc lm b L xs) (hi : i + 6 ≤ L) (hL : L ≤ 3072) (hC : Cp C M) (h0 : k ≤ 601024) (h1 : n ≤ 7293034) (kk : ∀ C' M', Cp C' M' → LW X lc lm q k n 1500 (lsL b lc lm q i) [] C' M' o) : LW X lc lm q k n 1449 (lsL b lc lm q i) [] C M o := by
  obtain ⟨⟨r, C2⟩, e1, ⟨r2, M2⟩, e2, e3, hC2⟩ := s_keep hC 
  refine lw_al1 hX dL_law_1449 ?_
  refine lw_cCI (As := []) (rest := []) hX (c_X9_keep e1) ok_X9_keep kwL_179 im_X9_keep se_X9_keep rfl rfl (by decide) (Nat.le_of_ble_eq_true rfl) rfl dL_law_1450 h0 h1 ?_
  refine lw_al2 hX dL_law_1453 ?_
  refine lw_cMI (As := []) (rest := [.int r]) hX (c_X10_keep e2) ok_X10_keep kwL_182 im_X10_keep se_X10_keep rfl rfl (by decide) (Nat.le_of_ble_eq_true rfl) rfl dL_law_1454 h0 h1 ?_
  exact lw_eq (tgt := 1500) hX dL_law_1457 (by decide) e3 (kk _ _ hC2)
theorem L_c37 (hX : LC X lc lm b L xs) (hi : i + 6 ≤ L) (hL : L ≤ 3072) (hC : Cp C M) (h0 : k ≤ 601024) (h1 : n ≤ 7293034) (kk : ∀ C' M', Cp C' M' → LW X lc lm q k n 1500 (lsL b lc lm q i) [] C' M' o) : LW X lc lm q k n 1462 (lsL b lc lm q i) [] C M o := by
  obtain ⟨⟨r, C2⟩, e1, ⟨r2, M2⟩, e2, e3, hC2⟩ := s_back hC 
  refine lw_al1 hX dL_law_1462 ?_
  refine lw_cCI (As := []) (rest := []) hX (c_X9_back e1) ok_X9_back kwL_183 im_X9_back se_X9_back rfl rfl (by decide) (Nat.le_of_ble_eq_true rfl) rfl dL_law_1463 h0 h1 ?_
  refine lw_al2 hX dL_law_1466 ?_
  refine lw_cMI (As := []) (rest := [.int r]) hX (c_X10_back e2) ok_X10_back kwL_186 im_X10_back se_X10_back rfl rfl (by decide) (Nat.le_of_ble_eq_true rfl) rfl dL_law_1467 h0 h1 ?_
  exact lw_eq (tgt := 1500) hX dL_law_1470 (by decide) e3 (kk _ _ hC2)
theorem L_c38 (hX : LC X lc lm b L xs) (hi : i + 6 ≤ L) (hL : L ≤ 3072) (hC : Cp C M) (h0 : k ≤ 601024) (h1 : n ≤ 7293034) (kk : ∀ C' M', Cp C' M' → LW X lc lm q k n 1500 (lsL b lc lm q i) [] C' M' o) : LW X lc lm q k n 1475 (lsL b lc lm q i) [] C M o := by
  obtain ⟨⟨r, C2⟩, e1, ⟨r2, M2⟩, e2, e3, hC2⟩ := q_count hC (xs (i + 1))
  refine lw_al1 hX dL_law_1475 ?_
  refine lw_arg hX 1 dL_law_1476 dL_law_1477 dL_law_1479 dL_law_1480 dL_law_1481 rfl (by omega) hL ?_
  refine lw_cCI (As := [.int (xs (i + 1))]) (rest := []) hX (c_X9_count e1) ok_X9_count kwL_187 im_X9_count se_X9_count rfl rfl (by decide) (Nat.le_of_ble_eq_true rfl) rfl dL_law_1482 h0 h1 ?_
  refine lw_al2 hX dL_law_1485 ?_
  refine lw_arg hX 1 dL_law_1486 dL_law_1487 dL_law_1489 dL_law_1490 dL_law_1491 rfl (by omega) hL ?_
  refine lw_cMI (As := [.int (xs (i + 1))]) (rest := [.int r]) hX (c_X10_count e2) ok_X10_count kwL_190 im_X10_count se_X10_count rfl rfl (by decide) (Nat.le_of_ble_eq_true rfl) rfl dL_law_1492 h0 h1 ?_
  exact lw_eq (tgt := 1500) hX dL_law_1495 (by decide) e3 (kk _ _ hC2)
end LWC
