section LAW2
variable {p : Program} {l : Launch} {e : Env} {s : State} {m : MethodId} {args : Array Value} {below : List Frame} {meth : Method} {c : Code} {H : Heap} {locs : List Loc} {Q : State → Prop}
variable {ls : Array Slot} {D : va_G} {cid : Nat → ClassId} {A : Nat → Prop} {a : Nat → Nat} {b Ln i : Nat} {xs : Nat → Int32} {M M' : Mem} {L L' : MemL} {Z : Sg}
theorem lw_flag {pc tgt aft : Nat} {off off2 : Int} {x : Int32} {rest : List Value} (X : LC D cid A a b Ln xs p s m args meth c) (d1 : decode cL_law pc = .ok (.ifCond .eq off, 3)) (h1 : (pc : Int) + off = (tgt : Int)) (d2 : decode cL_law (pc + 3) = .ok (.iconst 1, 1)) (d3 : decode cL_law (pc + 3 + 1) = .ok (.goto off2, 3)) (h2 : ((pc + 3 + 1 : Nat) : Int) + off2 = (aft : Int)) (d4 : decode cL_law tgt = .ok (.iconst 0, 1)) (ha : tgt + 1 = aft)
    (kk : W p l e room_1 s m args below meth c H locs 600000 7302250 Q (F0 m aft ls (.int (if x = 0 then 0 else 1) :: rest))) : W p l e room_1 s m args below meth c H locs 600000 7302250 Q (F0 m pc ls (.int x :: rest)) := by
  subst ha
  refine lv_if_eq X.1.1 X.1.2.1 d1 h1 (fun hz => ?_) (fun hz => ?_)
  · refine lv_iconst (v := 0) X.1.1 X.1.2.1 d4 (by decide) ?_
    rw [if_pos hz] at kk
    exact kk
  · refine lv_iconst (v := 1) X.1.1 X.1.2.1 d2 (by decide) ?_
    refine lv_goto X.1.1 X.1.2.1 d3 h2 ?_
    rw [if_neg hz] at kk
    exact kk
set_option maxRecDepth 100000 in
theorem lc_0 (X : LC D cid A a b Ln xs p s m args meth c) (I : LI Z M L M') (d : Hw D cid A a s M L M' L' H locs) (hl : lv_has ls 4 (lvL i a b)) (hi : i + 5 ≤ Ln) (hb : Ln ≤ 2560) (kk : ∀ (Z : Sg) (M : Mem) (L : MemL) (M' : Mem) (L' : MemL) (H : Heap) (locs : List Loc), LI Z M L M' → Hw D cid A a s M L M' L' H locs → W p l e room_1 s m args below meth c H locs 600000 7302250 Q (F0 m 1380 ls [])) : W p l e room_1 s m args below meth c H locs 600000 7302250 Q (F0 m 200 ls []) := by
  obtain ⟨hC, hg, hM⟩ := I
  refine lv_aload_n X.1.1 X.1.2.1 dL_law_200 rfl (lv_at hl 2 rfl) ?_
  refine lw_arg (k := 1) X d hl hi hb (by decide) (by decide) dL_law_201 dL_law_202 dL_law_203 dL_law_204 dL_law_205 ?_
  obtain ⟨M1, eX7, rX7⟩ := X7_strip_ (fu := 40000) (by decide) (by decide +kernel) hC (xs (i + 1))
  refine lw_c7 (As := [.int (xs (i + 1))]) X d hl (c_X7_strip l (G7 D cid A a M' L') M L 40000 0 (xs (i + 1)) (by decide +kernel) eX7) ml_RL_13 im_yX7_strip se_yX7_strip co_yX7_strip hyV_X7_strip ⟨rfl, rfl⟩ ⟨by decide, by decide⟩ rfl rfl dL_law_206 (fun H locs d => ?_)
  refine lv_aload_n X.1.1 X.1.2.1 dL_law_209 rfl (lv_at hl 1 rfl) ?_
  refine lw_arg (k := 1) X d hl hi hb (by decide) (by decide) dL_law_210 dL_law_211 dL_law_212 dL_law_213 dL_law_214 ?_
  obtain ⟨M2, eX8, rX8⟩ := X8_strip_ (fu := 40000) (by decide) hM (xs (i + 1))
  refine lw_c8 (As := [.int (xs (i + 1))]) X d hl (c_X8_strip l (G8 D cid A a M1 L) M' L' 40000 179 (xs (i + 1)) (by decide +kernel) eX8) ml_RL_17 im_yX8_strip se_yX8_strip co_yX8_strip hyV_X8_strip ⟨rfl, rfl⟩ ⟨by decide, by decide⟩ rfl rfl dL_law_215 (fun H locs d => ?_)
  exact lv_icmp_eq (tgt := 1380) X.1.1 X.1.2.1 dL_law_218 (by decide) (fun _ => kk _ _ _ _ _ _ _ ⟨rX7, hg, rX8⟩ d) (fun hq => absurd rfl hq)
set_option maxRecDepth 100000 in
theorem lc_1 (X : LC D cid A a b Ln xs p s m args meth c) (I : LI Z M L M') (d : Hw D cid A a s M L M' L' H locs) (hl : lv_has ls 4 (lvL i a b)) (hi : i + 5 ≤ Ln) (hb : Ln ≤ 2560) (kk : ∀ (Z : Sg) (M : Mem) (L : MemL) (M' : Mem) (L' : MemL) (H : Heap) (locs : List Loc), LI Z M L M' → Hw D cid A a s M L M' L' H locs → W p l e room_1 s m args below meth c H locs 600000 7302250 Q (F0 m 1380 ls [])) : W p l e room_1 s m args below meth c H locs 600000 7302250 Q (F0 m 223 ls []) := by
  obtain ⟨hC, hg, hM⟩ := I
  refine lv_aload_n X.1.1 X.1.2.1 dL_law_223 rfl (lv_at hl 2 rfl) ?_
  refine lw_arg (k := 1) X d hl hi hb (by decide) (by decide) dL_law_224 dL_law_225 dL_law_226 dL_law_227 dL_law_228 ?_
  refine lw_arg (k := 2) X d hl hi hb (by decide) (by decide) dL_law_229 dL_law_230 dL_law_231 dL_law_232 dL_law_233 ?_
  obtain ⟨M1, eX7, rX7⟩ := X7_set_ hC (xs (i + 1)) (xs (i + 2))
  refine lw_c7 (As := [.int (xs (i + 1)), .int (xs (i + 2))]) X d hl (c_X7_set l (G7 D cid A a M' L') M L 0 (xs (i + 1)) (xs (i + 2)) (by decide +kernel) eX7) ml_RL_18 im_yX7_set se_yX7_set co_yX7_set hyV_X7_set ⟨rfl, rfl⟩ ⟨by decide, by decide⟩ rfl rfl dL_law_234 (fun H locs d => ?_)
  refine lv_aload_n X.1.1 X.1.2.1 dL_law_237 rfl (lv_at hl 1 rfl) ?_
  refine lw_arg (k := 1) X d hl hi hb (by decide) (by decide) dL_law_238 dL_law_239 dL_law_240 dL_law_241 dL_law_242 ?_
  refine lw_arg (k := 2) X d hl hi hb (by decide) (by decide) dL_law_243 dL_law_244 dL_law_245 dL_law_246 dL_law_247 ?_
  obtain ⟨M2, eX8, rX8⟩ := X8_set_ hM (xs (i + 1)) (xs (i + 2))
  refine lw_c8 (As := [.int (xs (i + 1)), .int (xs (i + 2))]) X d hl (c_X8_set l (G8 D cid A a M1 L) M' L' 179 (xs (i + 1)) (xs (i + 2)) (by decide +kernel) eX8) ml_RL_22 im_yX8_set se_yX8_set co_yX8_set hyV_X8_set ⟨rfl, rfl⟩ ⟨by decide, by decide⟩ rfl rfl dL_law_248 (fun H locs d => ?_)
  exact lv_icmp_eq (tgt := 1380) X.1.1 X.1.2.1 dL_law_251 (by decide) (fun _ => kk _ _ _ _ _ _ _ ⟨rX7, hg, rX8⟩ d) (fun hq => absurd rfl hq)
set_option maxRecDepth 100000 in
theorem lc_2 (X : LC D cid A a b Ln xs p s m args meth c) (I : LI Z M L M') (d : Hw D cid A a s M L M' L' H locs) (hl : lv_has ls 4 (lvL i a b)) (hi : i + 5 ≤ Ln) (hb : Ln ≤ 2560) (kk : ∀ (Z : Sg) (M : Mem) (L : MemL) (M' : Mem) (L' : MemL) (H : Heap) (locs : List Loc), LI Z M L M' → Hw D cid A a s M L M' L' H locs → W p l e room_1 s m args below meth c H locs 600000 7302250 Q (F0 m 1380 ls [])) : W p l e room_1 s m args below meth c H locs 600000 7302250 Q (F0 m 256 ls []) := by
  obtain ⟨hC, hg, hM⟩ := I
  refine lv_aload_n X.1.1 X.1.2.1 dL_law_256 rfl (lv_at hl 2 rfl) ?_
  refine lw_arg (k := 1) X d hl hi hb (by decide) (by decide) dL_law_257 dL_law_258 dL_law_259 dL_law_260 dL_law_261 ?_
  refine lw_arg (k := 2) X d hl hi hb (by decide) (by decide) dL_law_262 dL_law_263 dL_law_264 dL_law_265 dL_law_266 ?_
  refine lw_c7 (As := [.int (xs (i + 1)), .int (xs (i + 2))]) X d hl (c_X7_grass l (G7 D cid A a M' L') M L 0 (xs (i + 1)) (xs (i + 2)) (by decide +kernel) (X7_grass_ hC (xs (i + 1)) (xs (i + 2)))) ml_RL_23 im_yX7_grass se_yX7_grass co_yX7_grass hyV_X7_grass ⟨rfl, rfl⟩ ⟨by decide, by decide⟩ rfl rfl dL_law_267 (fun H locs d => ?_)
  refine lv_aload_n X.1.1 X.1.2.1 dL_law_270 rfl (lv_at hl 1 rfl) ?_
  refine lw_arg (k := 1) X d hl hi hb (by decide) (by decide) dL_law_271 dL_law_272 dL_law_273 dL_law_274 dL_law_275 ?_
  refine lw_arg (k := 2) X d hl hi hb (by decide) (by decide) dL_law_276 dL_law_277 dL_law_278 dL_law_279 dL_law_280 ?_
  refine lw_c8 (As := [.int (xs (i + 1)), .int (xs (i + 2))]) X d hl (c_X8_grass l (G8 D cid A a M L) M' L' 179 (xs (i + 1)) (xs (i + 2)) (by decide +kernel) (X8_grass_ hM (xs (i + 1)) (xs (i + 2)))) ml_RL_26 im_yX8_grass se_yX8_grass co_yX8_grass hyV_X8_grass ⟨rfl, rfl⟩ ⟨by decide, by decide⟩ rfl rfl dL_law_281 (fun H locs d => ?_)
  exact lv_icmp_eq (tgt := 1380) X.1.1 X.1.2.1 dL_law_284 (by decide) (fun _ => kk _ _ _ _ _ _ _ ⟨hC, hg, hM⟩ d) (fun hq => absurd rfl hq)
set_option maxRecDepth 100000 in
theorem lc_3 (X : LC D cid A a b Ln xs p s m args meth c) (I : LI Z M L M') (d : Hw D cid A a s M L M' L' H locs) (hl : lv_has ls 4 (lvL i a b)) (hi : i + 5 ≤ Ln) (hb : Ln ≤ 2560) (kk : ∀ (Z : Sg) (M : Mem) (L : MemL) (M' : Mem) (L' : MemL) (H : Heap) (locs : List Loc), LI Z M L M' → Hw D cid A a s M L M' L' H locs → W p l e room_1 s m args below meth c H locs 600000 7302250 Q (F0 m 1380 ls [])) : W p l e room_1 s m args below meth c H locs 600000 7302250 Q (F0 m 289 ls []) := by
  obtain ⟨hC, hg, hM⟩ := I
  refine lv_aload_n X.1.1 X.1.2.1 dL_law_289 rfl (lv_at hl 2 rfl) ?_
  refine lw_arg (k := 1) X d hl hi hb (by decide) (by decide) dL_law_290 dL_law_291 dL_law_292 dL_law_293 dL_law_294 ?_
  refine lw_c7 (As := [.int (xs (i + 1))]) X d hl (c_X7_letter l (G7 D cid A a M' L') M L 0 (xs (i + 1)) (by decide +kernel) (X7_letter_ (xs (i + 1)))) ml_RL_27 im_yX7_letter se_yX7_letter co_yX7_letter hyV_X7_letter ⟨rfl, rfl⟩ ⟨by decide, by decide⟩ rfl rfl dL_law_295 (fun H locs d => ?_)
  refine lv_aload_n X.1.1 X.1.2.1 dL_law_298 rfl (lv_at hl 1 rfl) ?_
  refine lw_arg (k := 1) X d hl hi hb (by decide) (by decide) dL_law_299 dL_law_300 dL_law_301 dL_law_302 dL_law_303 ?_
  refine lw_c8 (As := [.int (xs (i + 1))]) X d hl (c_X8_letter l (G8 D cid A a M L) M' L' 179 (xs (i + 1)) (by decide +kernel) (X8_letter_ hM (xs (i + 1)))) ml_RL_30 im_yX8_letter se_yX8_letter co_yX8_letter hyV_X8_letter ⟨rfl, rfl⟩ ⟨by decide, by decide⟩ rfl rfl dL_law_304 (fun H locs d => ?_)
  exact lv_icmp_eq (tgt := 1380) X.1.1 X.1.2.1 dL_law_307 (by decide) (fun _ => kk _ _ _ _ _ _ _ ⟨hC, hg, hM⟩ d) (fun hq => absurd rfl hq)
set_option maxRecDepth 100000 in
theorem lc_4 (X : LC D cid A a b Ln xs p s m args meth c) (I : LI Z M L M') (d : Hw D cid A a s M L M' L' H locs) (hl : lv_has ls 4 (lvL i a b)) (hi : i + 5 ≤ Ln) (hb : Ln ≤ 2560) (kk : ∀ (Z : Sg) (M : Mem) (L : MemL) (M' : Mem) (L' : MemL) (H : Heap) (locs : List Loc), LI Z M L M' → Hw D cid A a s M L M' L' H locs → W p l e room_1 s m args below meth c H locs 600000 7302250 Q (F0 m 1380 ls [])) : W p l e room_1 s m args below meth c H locs 600000 7302250 Q (F0 m 312 ls []) := by
  obtain ⟨hC, hg, hM⟩ := I
  refine lv_aload_n X.1.1 X.1.2.1 dL_law_312 rfl (lv_at hl 2 rfl) ?_
  refine lw_arg (k := 1) X d hl hi hb (by decide) (by decide) dL_law_313 dL_law_314 dL_law_315 dL_law_316 dL_law_317 ?_
  refine lw_c7 (As := [.int (xs (i + 1))]) X d hl (c_X7_seen l (G7 D cid A a M' L') M L 40000 0 (xs (i + 1)) (by decide +kernel) (X7_seen_ (fu := 40000) (by decide) hC (xs (i + 1)))) ml_RL_31 im_yX7_seen se_yX7_seen co_yX7_seen hyV_X7_seen ⟨rfl, rfl⟩ ⟨by decide, by decide⟩ rfl rfl dL_law_318 (fun H locs d => ?_)
  refine lv_aload_n X.1.1 X.1.2.1 dL_law_321 rfl (lv_at hl 1 rfl) ?_
  refine lw_arg (k := 1) X d hl hi hb (by decide) (by decide) dL_law_322 dL_law_323 dL_law_324 dL_law_325 dL_law_326 ?_
  refine lw_c8 (As := [.int (xs (i + 1))]) X d hl (c_X8_seen l (G8 D cid A a M L) M' L' 40000 179 (xs (i + 1)) (by decide +kernel) (X8_seen_ (fu := 40000) (by decide) hM (xs (i + 1)))) ml_RL_34 im_yX8_seen se_yX8_seen co_yX8_seen hyV_X8_seen ⟨rfl, rfl⟩ ⟨by decide, by decide⟩ rfl rfl dL_law_327 (fun H locs d => ?_)
  exact lv_icmp_eq (tgt := 1380) X.1.1 X.1.2.1 dL_law_330 (by decide) (fun _ => kk _ _ _ _ _ _ _ ⟨hC, hg, hM⟩ d) (fun hq => absurd rfl hq)
set_option maxRecDepth 100000 in
theorem lc_5 (X : LC D cid A a b Ln xs p s m args meth c) (I : LI Z M L M') (d : Hw D cid A a s M L M' L' H locs) (hl : lv_has ls 4 (lvL i a b)) (hi : i + 5 ≤ Ln) (hb : Ln ≤ 2560) (kk : ∀ (Z : Sg) (M : Mem) (L : MemL) (M' : Mem) (L' : MemL) (H : Heap) (locs : List Loc), LI Z M L M' → Hw D cid A a s M L M' L' H locs → W p l e room_1 s m args below meth c H locs 600000 7302250 Q (F0 m 1380 ls [])) : W p l e room_1 s m args below meth c H locs 600000 7302250 Q (F0 m 335 ls []) := by
  obtain ⟨hC, hg, hM⟩ := I
  refine lv_aload_n X.1.1 X.1.2.1 dL_law_335 rfl (lv_at hl 2 rfl) ?_
  refine lw_arg (k := 1) X d hl hi hb (by decide) (by decide) dL_law_336 dL_law_337 dL_law_338 dL_law_339 dL_law_340 ?_
  refine lw_c7 (As := [.int (xs (i + 1))]) X d hl (c_X7_reads l (G7 D cid A a M' L') M L 40000 0 (xs (i + 1)) (by decide +kernel) (X7_reads_ (fu := 40000) (by decide) hC (xs (i + 1)))) ml_RL_35 im_yX7_reads se_yX7_reads co_yX7_reads hyV_X7_reads ⟨rfl, rfl⟩ ⟨by decide, by decide⟩ rfl rfl dL_law_341 (fun H locs d => ?_)
  refine lv_aload_n X.1.1 X.1.2.1 dL_law_344 rfl (lv_at hl 1 rfl) ?_
  refine lw_arg (k := 1) X d hl hi hb (by decide) (by decide) dL_law_345 dL_law_346 dL_law_347 dL_law_348 dL_law_349 ?_
  refine lw_c8 (As := [.int (xs (i + 1))]) X d hl (c_X8_reads l (G8 D cid A a M L) M' L' 40000 179 (xs (i + 1)) (by decide +kernel) (X8_reads_ (fu := 40000) (by decide) hM (xs (i + 1)))) ml_RL_38 im_yX8_reads se_yX8_reads co_yX8_reads hyV_X8_reads ⟨rfl, rfl⟩ ⟨by decide, by decide⟩ rfl rfl dL_law_350 (fun H locs d => ?_)
  exact lv_icmp_eq (tgt := 1380) X.1.1 X.1.2.1 dL_law_353 (by decide) (fun _ => kk _ _ _ _ _ _ _ ⟨hC, hg, hM⟩ d) (fun hq => absurd rfl hq)
set_option maxRecDepth 100000 in
theorem lc_6 (X : LC D cid A a b Ln xs p s m args meth c) (I : LI Z M L M') (d : Hw D cid A a s M L M' L' H locs) (hl : lv_has ls 4 (lvL i a b)) (hi : i + 5 ≤ Ln) (hb : Ln ≤ 2560) (kk : ∀ (Z : Sg) (M : Mem) (L : MemL) (M' : Mem) (L' : MemL) (H : Heap) (locs : List Loc), LI Z M L M' → Hw D cid A a s M L M' L' H locs → W p l e room_1 s m args below meth c H locs 600000 7302250 Q (F0 m 1380 ls [])) : W p l e room_1 s m args below meth c H locs 600000 7302250 Q (F0 m 358 ls []) := by
  obtain ⟨hC, hg, hM⟩ := I
  refine lv_aload_n X.1.1 X.1.2.1 dL_law_358 rfl (lv_at hl 2 rfl) ?_
  refine lw_arg (k := 1) X d hl hi hb (by decide) (by decide) dL_law_359 dL_law_360 dL_law_361 dL_law_362 dL_law_363 ?_
  refine lw_c7 (As := [.int (xs (i + 1))]) X d hl (c_X7_off l (G7 D cid A a M' L') M L 40000 0 (xs (i + 1)) (by decide +kernel) (X7_off_ (fu := 40000) (by decide) hC (xs (i + 1)))) ml_RL_39 im_yX7_off se_yX7_off co_yX7_off hyV_X7_off ⟨rfl, rfl⟩ ⟨by decide, by decide⟩ rfl rfl dL_law_364 (fun H locs d => ?_)
  refine lv_aload_n X.1.1 X.1.2.1 dL_law_367 rfl (lv_at hl 1 rfl) ?_
  refine lw_arg (k := 1) X d hl hi hb (by decide) (by decide) dL_law_368 dL_law_369 dL_law_370 dL_law_371 dL_law_372 ?_
  refine lw_c8 (As := [.int (xs (i + 1))]) X d hl (c_X8_off l (G8 D cid A a M L) M' L' 40000 179 (xs (i + 1)) (by decide +kernel) (X8_off_ (fu := 40000) (by decide) hM (xs (i + 1)))) ml_RL_42 im_yX8_off se_yX8_off co_yX8_off hyV_X8_off ⟨rfl, rfl⟩ ⟨by decide, by decide⟩ rfl rfl dL_law_373 (fun H locs d => ?_)
  exact lv_icmp_eq (tgt := 1380) X.1.1 X.1.2.1 dL_law_376 (by decide) (fun _ => kk _ _ _ _ _ _ _ ⟨hC, hg, hM⟩ d) (fun hq => absurd rfl hq)
set_option maxRecDepth 100000 in
theorem lc_7 (X : LC D cid A a b Ln xs p s m args meth c) (I : LI Z M L M') (d : Hw D cid A a s M L M' L' H locs) (hl : lv_has ls 4 (lvL i a b)) (hi : i + 5 ≤ Ln) (hb : Ln ≤ 2560) (kk : ∀ (Z : Sg) (M : Mem) (L : MemL) (M' : Mem) (L' : MemL) (H : Heap) (locs : List Loc), LI Z M L M' → Hw D cid A a s M L M' L' H locs → W p l e room_1 s m args below meth c H locs 600000 7302250 Q (F0 m 1380 ls [])) : W p l e room_1 s m args below meth c H locs 600000 7302250 Q (F0 m 381 ls []) := by
  obtain ⟨hC, hg, hM⟩ := I
  refine lv_aload_n X.1.1 X.1.2.1 dL_law_381 rfl (lv_at hl 2 rfl) ?_
  refine lw_arg (k := 1) X d hl hi hb (by decide) (by decide) dL_law_382 dL_law_383 dL_law_384 dL_law_385 dL_law_386 ?_
  refine lw_arg (k := 2) X d hl hi hb (by decide) (by decide) dL_law_387 dL_law_388 dL_law_389 dL_law_390 dL_law_391 ?_
  obtain ⟨M1, eX7, rX7⟩ := X7_mow_ (fu := 40000) (by decide) hC (xs (i + 1)) (xs (i + 2))
  refine lw_c7 (As := [.int (xs (i + 1)), .int (xs (i + 2))]) X d hl (c_X7_mow l (G7 D cid A a M' L') M L 40000 0 (xs (i + 1)) (xs (i + 2)) (by decide +kernel) eX7) ml_RL_43 im_yX7_mow se_yX7_mow co_yX7_mow hyV_X7_mow ⟨rfl, rfl⟩ ⟨by decide, by decide⟩ rfl rfl dL_law_392 (fun H locs d => ?_)
  refine lv_aload_n X.1.1 X.1.2.1 dL_law_395 rfl (lv_at hl 1 rfl) ?_
  refine lw_arg (k := 1) X d hl hi hb (by decide) (by decide) dL_law_396 dL_law_397 dL_law_398 dL_law_399 dL_law_400 ?_
  refine lw_arg (k := 2) X d hl hi hb (by decide) (by decide) dL_law_401 dL_law_402 dL_law_403 dL_law_404 dL_law_405 ?_
  obtain ⟨M2, eX8, rX8⟩ := X8_mow_ (fu := 40000) (by decide) hM (xs (i + 1)) (xs (i + 2))
  refine lw_c8 (As := [.int (xs (i + 1)), .int (xs (i + 2))]) X d hl (c_X8_mow l (G8 D cid A a M1 L) M' L' 40000 179 (xs (i + 1)) (xs (i + 2)) (by decide +kernel) eX8) ml_RL_46 im_yX8_mow se_yX8_mow co_yX8_mow hyV_X8_mow ⟨rfl, rfl⟩ ⟨by decide, by decide⟩ rfl rfl dL_law_406 (fun H locs d => ?_)
  exact lv_icmp_eq (tgt := 1380) X.1.1 X.1.2.1 dL_law_409 (by decide) (fun _ => kk _ _ _ _ _ _ _ ⟨rX7, hg, rX8⟩ d) (fun hq => absurd rfl hq)
set_option maxRecDepth 100000 in
theorem lc_8 (X : LC D cid A a b Ln xs p s m args meth c) (I : LI Z M L M') (d : Hw D cid A a s M L M' L' H locs) (hl : lv_has ls 4 (lvL i a b)) (hi : i + 5 ≤ Ln) (hb : Ln ≤ 2560) (kk : ∀ (Z : Sg) (M : Mem) (L : MemL) (M' : Mem) (L' : MemL) (H : Heap) (locs : List Loc), LI Z M L M' → Hw D cid A a s M L M' L' H locs → W p l e room_1 s m args below meth c H locs 600000 7302250 Q (F0 m 1380 ls [])) : W p l e room_1 s m args below meth c H locs 600000 7302250 Q (F0 m 414 ls []) := by
  obtain ⟨hC, hg, hM⟩ := I
  refine lv_aload_n X.1.1 X.1.2.1 dL_law_414 rfl (lv_at hl 2 rfl) ?_
  refine lw_arg (k := 1) X d hl hi hb (by decide) (by decide) dL_law_415 dL_law_416 dL_law_417 dL_law_418 dL_law_419 ?_
  obtain ⟨M1, eX7, rX7⟩ := X7_cut_ (fu := 40000) (by decide) hC (xs (i + 1))
  refine lw_c7 (As := [.int (xs (i + 1))]) X d hl (c_X7_cut l (G7 D cid A a M' L') M L 40000 0 (xs (i + 1)) (by decide +kernel) eX7) ml_RL_47 im_yX7_cut se_yX7_cut co_yX7_cut hyV_X7_cut ⟨rfl, rfl⟩ ⟨by decide, by decide⟩ rfl rfl dL_law_420 (fun H locs d => ?_)
  refine lv_aload_n X.1.1 X.1.2.1 dL_law_423 rfl (lv_at hl 1 rfl) ?_
  refine lw_arg (k := 1) X d hl hi hb (by decide) (by decide) dL_law_424 dL_law_425 dL_law_426 dL_law_427 dL_law_428 ?_
  obtain ⟨M2, eX8, rX8⟩ := X8_cut_ (fu := 40000) (by decide) hM (xs (i + 1))
  refine lw_c8 (As := [.int (xs (i + 1))]) X d hl (c_X8_cut l (G8 D cid A a M1 L) M' L' 40000 179 (xs (i + 1)) (by decide +kernel) eX8) ml_RL_50 im_yX8_cut se_yX8_cut co_yX8_cut hyV_X8_cut ⟨rfl, rfl⟩ ⟨by decide, by decide⟩ rfl rfl dL_law_429 (fun H locs d => ?_)
  exact lv_icmp_eq (tgt := 1380) X.1.1 X.1.2.1 dL_law_432 (by decide) (fun _ => kk _ _ _ _ _ _ _ ⟨rX7, hg, rX8⟩ d) (fun hq => absurd rfl hq)
set_option maxRecDepth 100000 in
theorem lc_9 (X : LC D cid A a b Ln xs p s m args meth c) (I : LI Z M L M') (d : Hw D cid A a s M L M' L' H locs) (hl : lv_has ls 4 (lvL i a b)) (hi : i + 5 ≤ Ln) (hb : Ln ≤ 2560) (kk : ∀ (Z : Sg) (M : Mem) (L : MemL) (M' : Mem) (L' : MemL) (H : Heap) (locs : List Loc), LI Z M L M' → Hw D cid A a s M L M' L' H locs → W p l e room_1 s m args below meth c H locs 600000 7302250 Q (F0 m 1380 ls [])) : W p l e room_1 s m args below meth c H locs 600000 7302250 Q (F0 m 437 ls []) := by
  obtain ⟨hC, hg, hM⟩ := I
  refine lv_aload_n X.1.1 X.1.2.1 dL_law_437 rfl (lv_at hl 2 rfl) ?_
  refine lw_arg (k := 1) X d hl hi hb (by decide) (by decide) dL_law_438 dL_law_439 dL_law_440 dL_law_441 dL_law_442 ?_
  refine lw_arg (k := 2) X d hl hi hb (by decide) (by decide) dL_law_443 dL_law_444 dL_law_445 dL_law_446 dL_law_447 ?_
  refine lw_arg (k := 3) X d hl hi hb (by decide) (by decide) dL_law_448 dL_law_449 dL_law_450 dL_law_451 dL_law_452 ?_
  obtain ⟨M1, eX7, rX7⟩ := X7_fault_ hC (xs (i + 1)) (xs (i + 2)) (xs (i + 3))
  refine lw_c7 (As := [.int (xs (i + 1)), .int (xs (i + 2)), .int (xs (i + 3))]) X d hl (c_X7_fault l (G7 D cid A a M' L') M L 0 (xs (i + 1)) (xs (i + 2)) (xs (i + 3)) (by decide +kernel) eX7) ml_RL_51 im_yX7_fault se_yX7_fault co_yX7_fault hyV_X7_fault ⟨rfl, rfl⟩ ⟨by decide, by decide⟩ rfl rfl dL_law_453 (fun H locs d => ?_)
  refine lv_aload_n X.1.1 X.1.2.1 dL_law_456 rfl (lv_at hl 1 rfl) ?_
  refine lw_arg (k := 1) X d hl hi hb (by decide) (by decide) dL_law_457 dL_law_458 dL_law_459 dL_law_460 dL_law_461 ?_
  refine lw_arg (k := 2) X d hl hi hb (by decide) (by decide) dL_law_462 dL_law_463 dL_law_464 dL_law_465 dL_law_466 ?_
  refine lw_arg (k := 3) X d hl hi hb (by decide) (by decide) dL_law_467 dL_law_468 dL_law_469 dL_law_470 dL_law_471 ?_
  obtain ⟨M2, eX8, rX8⟩ := X8_fault_ hM (xs (i + 1)) (xs (i + 2)) (xs (i + 3))
  refine lw_c8 (As := [.int (xs (i + 1)), .int (xs (i + 2)), .int (xs (i + 3))]) X d hl (c_X8_fault l (G8 D cid A a M1 L) M' L' 179 (xs (i + 1)) (xs (i + 2)) (xs (i + 3)) (by decide +kernel) eX8) ml_RL_55 im_yX8_fault se_yX8_fault co_yX8_fault hyV_X8_fault ⟨rfl, rfl⟩ ⟨by decide, by decide⟩ rfl rfl dL_law_472 (fun H locs d => ?_)
  exact lv_icmp_eq (tgt := 1380) X.1.1 X.1.2.1 dL_law_475 (by decide) (fun _ => kk _ _ _ _ _ _ _ ⟨rX7, hg, rX8⟩ d) (fun hq => absurd rfl hq)
set_option maxRecDepth 100000 in
theorem lc_10 (X : LC D cid A a b Ln xs p s m args meth c) (I : LI Z M L M') (d : Hw D cid A a s M L M' L' H locs) (hl : lv_has ls 4 (lvL i a b)) (hi : i + 5 ≤ Ln) (hb : Ln ≤ 2560) (kk : ∀ (Z : Sg) (M : Mem) (L : MemL) (M' : Mem) (L' : MemL) (H : Heap) (locs : List Loc), LI Z M L M' → Hw D cid A a s M L M' L' H locs → W p l e room_1 s m args below meth c H locs 600000 7302250 Q (F0 m 1380 ls [])) : W p l e room_1 s m args below meth c H locs 600000 7302250 Q (F0 m 480 ls []) := by
  obtain ⟨hC, hg, hM⟩ := I
  refine lv_aload_n X.1.1 X.1.2.1 dL_law_480 rfl (lv_at hl 2 rfl) ?_
  refine lw_arg (k := 1) X d hl hi hb (by decide) (by decide) dL_law_481 dL_law_482 dL_law_483 dL_law_484 dL_law_485 ?_
  obtain ⟨M1, eX7, rX7⟩ := X7_weeks_ (fu := 40000) (by decide) hC (xs (i + 1))
  refine lw_c7 (As := [.int (xs (i + 1))]) X d hl (c_X7_weeks l (G7 D cid A a M' L') M L 40000 0 (xs (i + 1)) (by decide +kernel) eX7) ml_RL_56 im_yX7_weeks se_yX7_weeks co_yX7_weeks hyV_X7_weeks ⟨rfl, rfl⟩ ⟨by decide, by decide⟩ rfl rfl dL_law_486 (fun H locs d => ?_)
  refine lv_aload_n X.1.1 X.1.2.1 dL_law_489 rfl (lv_at hl 1 rfl) ?_
  refine lw_arg (k := 1) X d hl hi hb (by decide) (by decide) dL_law_490 dL_law_491 dL_law_492 dL_law_493 dL_law_494 ?_
  obtain ⟨M2, eX8, rX8⟩ := X8_weeks_ (fu := 40000) (by decide) hM (xs (i + 1))
  refine lw_c8 (As := [.int (xs (i + 1))]) X d hl (c_X8_weeks l (G8 D cid A a M1 L) M' L' 40000 179 (xs (i + 1)) (by decide +kernel) eX8) ml_RL_59 im_yX8_weeks se_yX8_weeks co_yX8_weeks hyV_X8_weeks ⟨rfl, rfl⟩ ⟨by decide, by decide⟩ rfl rfl dL_law_495 (fun H locs d => ?_)
  exact lv_icmp_eq (tgt := 1380) X.1.1 X.1.2.1 dL_law_498 (by decide) (fun _ => kk _ _ _ _ _ _ _ ⟨rX7, hg, rX8⟩ d) (fun hq => absurd rfl hq)
set_option maxRecDepth 100000 in
theorem lc_11 (X : LC D cid A a b Ln xs p s m args meth c) (I : LI Z M L M') (d : Hw D cid A a s M L M' L' H locs) (hl : lv_has ls 4 (lvL i a b)) (hi : i + 5 ≤ Ln) (hb : Ln ≤ 2560) (kk : ∀ (Z : Sg) (M : Mem) (L : MemL) (M' : Mem) (L' : MemL) (H : Heap) (locs : List Loc), LI Z M L M' → Hw D cid A a s M L M' L' H locs → W p l e room_1 s m args below meth c H locs 600000 7302250 Q (F0 m 1380 ls [])) : W p l e room_1 s m args below meth c H locs 600000 7302250 Q (F0 m 503 ls []) := by
  obtain ⟨hC, hg, hM⟩ := I
  refine lv_aload_n X.1.1 X.1.2.1 dL_law_503 rfl (lv_at hl 2 rfl) ?_
  refine lw_arg (k := 1) X d hl hi hb (by decide) (by decide) dL_law_504 dL_law_505 dL_law_506 dL_law_507 dL_law_508 ?_
  refine lw_c7 (As := [.int (xs (i + 1))]) X d hl (c_X7_hay l (G7 D cid A a M' L') M L 0 (xs (i + 1)) (by decide +kernel) (X7_hay_ hC (xs (i + 1)))) ml_RL_60 im_yX7_hay se_yX7_hay co_yX7_hay hyV_X7_hay ⟨rfl, rfl⟩ ⟨by decide, by decide⟩ rfl rfl dL_law_509 (fun H locs d => ?_)
  refine lv_aload_n X.1.1 X.1.2.1 dL_law_512 rfl (lv_at hl 1 rfl) ?_
  refine lw_arg (k := 1) X d hl hi hb (by decide) (by decide) dL_law_513 dL_law_514 dL_law_515 dL_law_516 dL_law_517 ?_
  refine lw_c8 (As := [.int (xs (i + 1))]) X d hl (c_X8_hay l (G8 D cid A a M L) M' L' 179 (xs (i + 1)) (by decide +kernel) (X8_hay_ hM (xs (i + 1)))) ml_RL_63 im_yX8_hay se_yX8_hay co_yX8_hay hyV_X8_hay ⟨rfl, rfl⟩ ⟨by decide, by decide⟩ rfl rfl dL_law_518 (fun H locs d => ?_)
  exact lv_icmp_eq (tgt := 1380) X.1.1 X.1.2.1 dL_law_521 (by decide) (fun _ => kk _ _ _ _ _ _ _ ⟨hC, hg, hM⟩ d) (fun hq => absurd rfl hq)
set_option maxRecDepth 100000 in
theorem lc_12 (X : LC D cid A a b Ln xs p s m args meth c) (I : LI Z M L M') (d : Hw D cid A a s M L M' L' H locs) (hl : lv_has ls 4 (lvL i a b)) (hi : i + 5 ≤ Ln) (hb : Ln ≤ 2560) (kk : ∀ (Z : Sg) (M : Mem) (L : MemL) (M' : Mem) (L' : MemL) (H : Heap) (locs : List Loc), LI Z M L M' → Hw D cid A a s M L M' L' H locs → W p l e room_1 s m args below meth c H locs 600000 7302250 Q (F0 m 1380 ls [])) : W p l e room_1 s m args below meth c H locs 600000 7302250 Q (F0 m 526 ls []) := by
  obtain ⟨hC, hg, hM⟩ := I
  refine lv_aload_n X.1.1 X.1.2.1 dL_law_526 rfl (lv_at hl 2 rfl) ?_
  refine lw_arg (k := 1) X d hl hi hb (by decide) (by decide) dL_law_527 dL_law_528 dL_law_529 dL_law_530 dL_law_531 ?_
  refine lv_i2l (v := (xs (i + 1)).toInt64) X.1.1 X.1.2.1 dL_law_532 rfl ?_
  refine lv_bipush (v := 32) X.1.1 X.1.2.1 dL_law_533 (by decide) ?_
  refine lv_lshl (v := ((xs (i + 1)).toInt64) <<< ((32 : Int32).toInt64 &&& 63)) X.1.1 X.1.2.1 dL_law_535 rfl ?_
  refine lw_arg (k := 2) X d hl hi hb (by decide) (by decide) dL_law_536 dL_law_537 dL_law_538 dL_law_539 dL_law_540 ?_
  refine lv_i2l (v := (xs (i + 2)).toInt64) X.1.1 X.1.2.1 dL_law_541 rfl ?_
  refine lv_ldc2 (v := 4294967295) X.1.1 X.1.2.1 X.1.2.2.2.1 (X.1.uw cn_RL_64) dL_law_542 ?_
  refine lv_land X.1.1 X.1.2.1 dL_law_545 ?_
  refine lv_lor X.1.1 X.1.2.1 dL_law_546 ?_
  refine lw_arg (k := 3) X d hl hi hb (by decide) (by decide) dL_law_547 dL_law_548 dL_law_549 dL_law_550 dL_law_551 ?_
  obtain ⟨M1, eX7, rX7⟩ := X7_type_ (fu := 40000) (by decide) hC ((((xs (i + 1)).toInt64) <<< ((32 : Int32).toInt64 &&& 63)) ||| (((xs (i + 2)).toInt64) &&& 4294967295)) (xs (i + 3))
  refine lw_c7 (As := [.long ((((xs (i + 1)).toInt64) <<< ((32 : Int32).toInt64 &&& 63)) ||| (((xs (i + 2)).toInt64) &&& 4294967295)), .int (xs (i + 3))]) X d hl (c_X7_type l (G7 D cid A a M' L') M L 40000 0 ((((xs (i + 1)).toInt64) <<< ((32 : Int32).toInt64 &&& 63)) ||| (((xs (i + 2)).toInt64) &&& 4294967295)) (xs (i + 3)) (by decide +kernel) eX7) ml_RL_66 im_yX7_type se_yX7_type co_yX7_type hyV_X7_type ⟨rfl, rfl⟩ ⟨by decide, by decide⟩ rfl rfl dL_law_552 (fun H locs d => ?_)
  refine lv_aload_n X.1.1 X.1.2.1 dL_law_555 rfl (lv_at hl 1 rfl) ?_
  refine lw_arg (k := 1) X d hl hi hb (by decide) (by decide) dL_law_556 dL_law_557 dL_law_558 dL_law_559 dL_law_560 ?_
  refine lv_i2l (v := (xs (i + 1)).toInt64) X.1.1 X.1.2.1 dL_law_561 rfl ?_
  refine lv_bipush (v := 32) X.1.1 X.1.2.1 dL_law_562 (by decide) ?_
  refine lv_lshl (v := ((xs (i + 1)).toInt64) <<< ((32 : Int32).toInt64 &&& 63)) X.1.1 X.1.2.1 dL_law_564 rfl ?_
  refine lw_arg (k := 2) X d hl hi hb (by decide) (by decide) dL_law_565 dL_law_566 dL_law_567 dL_law_568 dL_law_569 ?_
  refine lv_i2l (v := (xs (i + 2)).toInt64) X.1.1 X.1.2.1 dL_law_570 rfl ?_
  refine lv_ldc2 (v := 4294967295) X.1.1 X.1.2.1 X.1.2.2.2.1 (X.1.uw cn_RL_64) dL_law_571 ?_
  refine lv_land X.1.1 X.1.2.1 dL_law_574 ?_
  refine lv_lor X.1.1 X.1.2.1 dL_law_575 ?_
  refine lw_arg (k := 3) X d hl hi hb (by decide) (by decide) dL_law_576 dL_law_577 dL_law_578 dL_law_579 dL_law_580 ?_
  obtain ⟨M2, eX8, rX8⟩ := X8_type_ (fu := 40000) (by decide) hM ((((xs (i + 1)).toInt64) <<< ((32 : Int32).toInt64 &&& 63)) ||| (((xs (i + 2)).toInt64) &&& 4294967295)) (xs (i + 3))
  refine lw_c8 (As := [.long ((((xs (i + 1)).toInt64) <<< ((32 : Int32).toInt64 &&& 63)) ||| (((xs (i + 2)).toInt64) &&& 4294967295)), .int (xs (i + 3))]) X d hl (c_X8_type l (G8 D cid A a M1 L) M' L' 40000 179 ((((xs (i + 1)).toInt64) <<< ((32 : Int32).toInt64 &&& 63)) ||| (((xs (i + 2)).toInt64) &&& 4294967295)) (xs (i + 3)) (by decide +kernel) eX8) ml_RL_70 im_yX8_type se_yX8_type co_yX8_type hyV_X8_type ⟨rfl, rfl⟩ ⟨by decide, by decide⟩ rfl rfl dL_law_581 (fun H locs d => ?_)
  exact lv_icmp_eq (tgt := 1380) X.1.1 X.1.2.1 dL_law_584 (by decide) (fun _ => kk _ _ _ _ _ _ _ ⟨rX7, hg, rX8⟩ d) (fun hq => absurd rfl hq)
end LAW2
