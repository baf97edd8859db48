/-! printed by gen/law.py: the cases of the law's switch -/
set_option maxRecDepth 100000 in
set_option maxHeartbeats 4000000 in
theorem lc_bar {X : zY} {l : Launch} {b L : Nat} {xs : Nat → Int32} {aX aM : Nat → Nat} {q : Nat} {Mx Mm : zM} (h : lwH X l b L xs aX aM q Mx Mm) : zB X (zW (zYi X) aX Mx shX ++ zW (zYi X) aM Mm shM) 99 8103 168 (lvL b aX aM (4 * q)) [] := by
  obtain ⟨C, hXs, hL, hi, hMx, hMm, hP, next⟩ := h
  unfold lvL
  refine zb_aload_n (i := 1) C dL_law_168 rfl rfl ?_
  refine zb_arg C hXs (4 * (q : Int)) 1 rfl rfl (by omega) (by omega) rfl (by decide) (by omega) dL_law_169 dL_law_170 dL_law_171 dL_law_172 dL_law_173 ?_
  refine zb_arg C hXs (4 * (q : Int)) 2 rfl rfl (by omega) (by omega) rfl (by decide) (by omega) dL_law_174 dL_law_175 dL_law_176 dL_law_177 dL_law_178 ?_
  refine zb_arg C hXs (4 * (q : Int)) 3 rfl rfl (by omega) (by omega) rfl (by decide) (by omega) dL_law_179 dL_law_180 dL_law_181 dL_law_182 dL_law_183 ?_
  refine zb_callV (i := 70) (ci := 7) (shp := shX) (ad := aX) (M := Mx) (As := [zi (xs (4 * (q : Int) + 1).toNat).toInt, zi (xs (4 * (q : Int) + 2).toNat).toInt, zi (xs (4 * (q : Int) + 3).toNat).toInt]) (st := []) C hMx (wB_bar l _ _ _ Mx (bar_pair hP _ _ _)) zc_L_13 zv_X7_bar rfl rfl rfl (zra3 (zi_rng _) (zi_rng _) (zi_rng _)) ⟨Nat.le_of_ble_eq_true rfl, Nat.le_of_ble_eq_true rfl⟩ rfl (fun _ h => (List.not_mem_nil h).elim) rfl (Nat.le_of_ble_eq_true rfl) dL_law_184 ⟨Nat.le_of_ble_eq_true rfl, Nat.le_of_ble_eq_true rfl⟩ zI_nr (fun v Mx' hMx' hF => ?_)
  obtain ⟨r, rfl, hJ⟩ := hF
  refine zb_perm List.perm_append_comm ?_
  refine zb_aload_n (i := 2) C dL_law_187 rfl rfl ?_
  refine zb_arg C hXs (4 * (q : Int)) 1 rfl rfl (by omega) (by omega) rfl (by decide) (by omega) dL_law_188 dL_law_189 dL_law_190 dL_law_191 dL_law_192 ?_
  refine zb_arg C hXs (4 * (q : Int)) 2 rfl rfl (by omega) (by omega) rfl (by decide) (by omega) dL_law_193 dL_law_194 dL_law_195 dL_law_196 dL_law_197 ?_
  refine zb_arg C hXs (4 * (q : Int)) 3 rfl rfl (by omega) (by omega) rfl (by decide) (by omega) dL_law_198 dL_law_199 dL_law_200 dL_law_201 dL_law_202 ?_
  refine zb_callV (i := 0) (ci := 8) (shp := shM) (ad := aM) (M := Mm) (As := [zi (xs (4 * (q : Int) + 1).toNat).toInt, zi (xs (4 * (q : Int) + 2).toNat).toInt, zi (xs (4 * (q : Int) + 3).toNat).toInt]) (st := [zi r]) C hMm (wM_bar l _ _ _ Mm hJ) zc_L_17 zv_X8_bar rfl rfl rfl (zra3 (zi_rng _) (zi_rng _) (zi_rng _)) ⟨Nat.le_of_ble_eq_true rfl, Nat.le_of_ble_eq_true rfl⟩ rfl (fun _ h => List.mem_append_right [zi (xs (4 * (q : Int) + 3).toNat).toInt, zi (xs (4 * (q : Int) + 2).toNat).toInt, zi (xs (4 * (q : Int) + 1).toNat).toInt, zr (aM 0)] h) rfl (Nat.le_of_ble_eq_true rfl) dL_law_203 ⟨Nat.le_of_ble_eq_true rfl, Nat.le_of_ble_eq_true rfl⟩ zI_nr (fun v Mm' hMm' hF => ?_)
  obtain ⟨r', rfl, hE⟩ := hF
  refine zb_perm List.perm_append_comm ?_
  exact zb_icmp_eq (tgt := 958) C dL_law_206 rfl (fun _ => next _ _ hMx' hMm' (hE.2.up (by omega))) (fun hne => absurd hE.1.symm hne)
set_option maxRecDepth 100000 in
set_option maxHeartbeats 4000000 in
theorem lc_arrow {X : zY} {l : Launch} {b L : Nat} {xs : Nat → Int32} {aX aM : Nat → Nat} {q : Nat} {Mx Mm : zM} (h : lwH X l b L xs aX aM q Mx Mm) : zB X (zW (zYi X) aX Mx shX ++ zW (zYi X) aM Mm shM) 99 8103 211 (lvL b aX aM (4 * q)) [] := by
  obtain ⟨C, hXs, hL, hi, hMx, hMm, hP, next⟩ := h
  unfold lvL
  refine zb_aload_n (i := 1) C dL_law_211 rfl rfl ?_
  refine zb_arg C hXs (4 * (q : Int)) 1 rfl rfl (by omega) (by omega) rfl (by decide) (by omega) dL_law_212 dL_law_213 dL_law_214 dL_law_215 dL_law_216 ?_
  refine zb_arg C hXs (4 * (q : Int)) 2 rfl rfl (by omega) (by omega) rfl (by decide) (by omega) dL_law_217 dL_law_218 dL_law_219 dL_law_220 dL_law_221 ?_
  refine zb_callV (i := 70) (ci := 7) (shp := shX) (ad := aX) (M := Mx) (As := [zi (xs (4 * (q : Int) + 1).toNat).toInt, zi (xs (4 * (q : Int) + 2).toNat).toInt]) (st := []) C hMx (wB_arrow l _ _ Mx (arrow_pair hP _ _)) zc_L_18 zv_X7_arrow rfl rfl rfl (zra2 (zi_rng _) (zi_rng _)) ⟨Nat.le_of_ble_eq_true rfl, Nat.le_of_ble_eq_true rfl⟩ rfl (fun _ h => (List.not_mem_nil h).elim) rfl (Nat.le_of_ble_eq_true rfl) dL_law_222 ⟨Nat.le_of_ble_eq_true rfl, Nat.le_of_ble_eq_true rfl⟩ zI_nr (fun v Mx' hMx' hF => ?_)
  obtain ⟨r, rfl, hJ⟩ := hF
  refine zb_perm List.perm_append_comm ?_
  refine zb_aload_n (i := 2) C dL_law_225 rfl rfl ?_
  refine zb_arg C hXs (4 * (q : Int)) 1 rfl rfl (by omega) (by omega) rfl (by decide) (by omega) dL_law_226 dL_law_227 dL_law_228 dL_law_229 dL_law_230 ?_
  refine zb_arg C hXs (4 * (q : Int)) 2 rfl rfl (by omega) (by omega) rfl (by decide) (by omega) dL_law_231 dL_law_232 dL_law_233 dL_law_234 dL_law_235 ?_
  refine zb_callV (i := 0) (ci := 8) (shp := shM) (ad := aM) (M := Mm) (As := [zi (xs (4 * (q : Int) + 1).toNat).toInt, zi (xs (4 * (q : Int) + 2).toNat).toInt]) (st := [zi r]) C hMm (wM_arrow l _ _ Mm hJ) zc_L_22 zv_X8_arrow rfl rfl rfl (zra2 (zi_rng _) (zi_rng _)) ⟨Nat.le_of_ble_eq_true rfl, Nat.le_of_ble_eq_true rfl⟩ rfl (fun _ h => List.mem_append_right [zi (xs (4 * (q : Int) + 2).toNat).toInt, zi (xs (4 * (q : Int) + 1).toNat).toInt, zr (aM 0)] h) rfl (Nat.le_of_ble_eq_true rfl) dL_law_236 ⟨Nat.le_of_ble_eq_true rfl, Nat.le_of_ble_eq_true rfl⟩ zI_nr (fun v Mm' hMm' hF => ?_)
  obtain ⟨r', rfl, hE⟩ := hF
  refine zb_perm List.perm_append_comm ?_
  exact zb_icmp_eq (tgt := 958) C dL_law_239 rfl (fun _ => next _ _ hMx' hMm' (hE.2.up (by omega))) (fun hne => absurd hE.1.symm hne)
set_option maxRecDepth 100000 in
set_option maxHeartbeats 4000000 in
theorem lc_addAll {X : zY} {l : Launch} {b L : Nat} {xs : Nat → Int32} {aX aM : Nat → Nat} {q : Nat} {Mx Mm : zM} (h : lwH X l b L xs aX aM q Mx Mm) : zB X (zW (zYi X) aX Mx shX ++ zW (zYi X) aM Mm shM) 99 8103 244 (lvL b aX aM (4 * q)) [] := by
  obtain ⟨C, hXs, hL, hi, hMx, hMm, hP, next⟩ := h
  unfold lvL
  refine zb_aload_n (i := 1) C dL_law_244 rfl rfl ?_
  refine zb_callV (i := 70) (ci := 7) (shp := shX) (ad := aX) (M := Mx) (As := []) (st := []) C hMx (wB_addAll l Mx (addAll_pair hP)) zc_L_23 zv_X7_addAll rfl rfl rfl (zra0) ⟨Nat.le_of_ble_eq_true rfl, Nat.le_of_ble_eq_true rfl⟩ rfl (fun _ h => (List.not_mem_nil h).elim) rfl (Nat.le_of_ble_eq_true rfl) dL_law_245 ⟨Nat.le_of_ble_eq_true rfl, Nat.le_of_ble_eq_true rfl⟩ zI_nr (fun v Mx' hMx' hF => ?_)
  obtain ⟨r, rfl, hJ⟩ := hF
  refine zb_perm List.perm_append_comm ?_
  refine zb_aload_n (i := 2) C dL_law_248 rfl rfl ?_
  refine zb_callV (i := 0) (ci := 8) (shp := shM) (ad := aM) (M := Mm) (As := []) (st := [zi r]) C hMm (wM_addAll l Mm hJ) zc_L_27 zv_X8_addAll rfl rfl rfl (zra0) ⟨Nat.le_of_ble_eq_true rfl, Nat.le_of_ble_eq_true rfl⟩ rfl (fun _ h => List.mem_append_right [zr (aM 0)] h) rfl (Nat.le_of_ble_eq_true rfl) dL_law_249 ⟨Nat.le_of_ble_eq_true rfl, Nat.le_of_ble_eq_true rfl⟩ zI_nr (fun v Mm' hMm' hF => ?_)
  obtain ⟨r', rfl, hE⟩ := hF
  refine zb_perm List.perm_append_comm ?_
  exact zb_icmp_eq (tgt := 958) C dL_law_252 rfl (fun _ => next _ _ hMx' hMm' (hE.2.up (by omega))) (fun hne => absurd hE.1.symm hne)
set_option maxRecDepth 100000 in
set_option maxHeartbeats 4000000 in
theorem lc_takeBar {X : zY} {l : Launch} {b L : Nat} {xs : Nat → Int32} {aX aM : Nat → Nat} {q : Nat} {Mx Mm : zM} (h : lwH X l b L xs aX aM q Mx Mm) : zB X (zW (zYi X) aX Mx shX ++ zW (zYi X) aM Mm shM) 99 8103 257 (lvL b aX aM (4 * q)) [] := by
  obtain ⟨C, hXs, hL, hi, hMx, hMm, hP, next⟩ := h
  unfold lvL
  refine zb_aload_n (i := 1) C dL_law_257 rfl rfl ?_
  refine zb_arg C hXs (4 * (q : Int)) 1 rfl rfl (by omega) (by omega) rfl (by decide) (by omega) dL_law_258 dL_law_259 dL_law_260 dL_law_261 dL_law_262 ?_
  refine zb_callV (i := 70) (ci := 7) (shp := shX) (ad := aX) (M := Mx) (As := [zi (xs (4 * (q : Int) + 1).toNat).toInt]) (st := []) C hMx (wB_takeBar l _ Mx (takeBar_pair hP _)) zc_L_28 zv_X7_takeBar rfl rfl rfl (zra1 (zi_rng _)) ⟨Nat.le_of_ble_eq_true rfl, Nat.le_of_ble_eq_true rfl⟩ rfl (fun _ h => (List.not_mem_nil h).elim) rfl (Nat.le_of_ble_eq_true rfl) dL_law_263 ⟨Nat.le_of_ble_eq_true rfl, Nat.le_of_ble_eq_true rfl⟩ zI_nr (fun v Mx' hMx' hF => ?_)
  obtain ⟨r, rfl, hJ⟩ := hF
  refine zb_perm List.perm_append_comm ?_
  refine zb_aload_n (i := 2) C dL_law_266 rfl rfl ?_
  refine zb_arg C hXs (4 * (q : Int)) 1 rfl rfl (by omega) (by omega) rfl (by decide) (by omega) dL_law_267 dL_law_268 dL_law_269 dL_law_270 dL_law_271 ?_
  refine zb_callV (i := 0) (ci := 8) (shp := shM) (ad := aM) (M := Mm) (As := [zi (xs (4 * (q : Int) + 1).toNat).toInt]) (st := [zi r]) C hMm (wM_takeBar l _ Mm hJ) zc_L_32 zv_X8_takeBar rfl rfl rfl (zra1 (zi_rng _)) ⟨Nat.le_of_ble_eq_true rfl, Nat.le_of_ble_eq_true rfl⟩ rfl (fun _ h => List.mem_append_right [zi (xs (4 * (q : Int) + 1).toNat).toInt, zr (aM 0)] h) rfl (Nat.le_of_ble_eq_true rfl) dL_law_272 ⟨Nat.le_of_ble_eq_true rfl, Nat.le_of_ble_eq_true rfl⟩ zI_nr (fun v Mm' hMm' hF => ?_)
  obtain ⟨r', rfl, hE⟩ := hF
  refine zb_perm List.perm_append_comm ?_
  exact zb_icmp_eq (tgt := 958) C dL_law_275 rfl (fun _ => next _ _ hMx' hMm' (hE.2.up (by omega))) (fun hne => absurd hE.1.symm hne)
set_option maxRecDepth 100000 in
set_option maxHeartbeats 4000000 in
theorem lc_takeArrow {X : zY} {l : Launch} {b L : Nat} {xs : Nat → Int32} {aX aM : Nat → Nat} {q : Nat} {Mx Mm : zM} (h : lwH X l b L xs aX aM q Mx Mm) : zB X (zW (zYi X) aX Mx shX ++ zW (zYi X) aM Mm shM) 99 8103 280 (lvL b aX aM (4 * q)) [] := by
  obtain ⟨C, hXs, hL, hi, hMx, hMm, hP, next⟩ := h
  unfold lvL
  refine zb_aload_n (i := 1) C dL_law_280 rfl rfl ?_
  refine zb_arg C hXs (4 * (q : Int)) 1 rfl rfl (by omega) (by omega) rfl (by decide) (by omega) dL_law_281 dL_law_282 dL_law_283 dL_law_284 dL_law_285 ?_
  refine zb_callV (i := 70) (ci := 7) (shp := shX) (ad := aX) (M := Mx) (As := [zi (xs (4 * (q : Int) + 1).toNat).toInt]) (st := []) C hMx (wB_takeArrow l _ Mx (takeArrow_pair hP _)) zc_L_33 zv_X7_takeArrow rfl rfl rfl (zra1 (zi_rng _)) ⟨Nat.le_of_ble_eq_true rfl, Nat.le_of_ble_eq_true rfl⟩ rfl (fun _ h => (List.not_mem_nil h).elim) rfl (Nat.le_of_ble_eq_true rfl) dL_law_286 ⟨Nat.le_of_ble_eq_true rfl, Nat.le_of_ble_eq_true rfl⟩ zI_nr (fun v Mx' hMx' hF => ?_)
  obtain ⟨r, rfl, hJ⟩ := hF
  refine zb_perm List.perm_append_comm ?_
  refine zb_aload_n (i := 2) C dL_law_289 rfl rfl ?_
  refine zb_arg C hXs (4 * (q : Int)) 1 rfl rfl (by omega) (by omega) rfl (by decide) (by omega) dL_law_290 dL_law_291 dL_law_292 dL_law_293 dL_law_294 ?_
  refine zb_callV (i := 0) (ci := 8) (shp := shM) (ad := aM) (M := Mm) (As := [zi (xs (4 * (q : Int) + 1).toNat).toInt]) (st := [zi r]) C hMm (wM_takeArrow l _ Mm hJ) zc_L_36 zv_X8_takeArrow rfl rfl rfl (zra1 (zi_rng _)) ⟨Nat.le_of_ble_eq_true rfl, Nat.le_of_ble_eq_true rfl⟩ rfl (fun _ h => List.mem_append_right [zi (xs (4 * (q : Int) + 1).toNat).toInt, zr (aM 0)] h) rfl (Nat.le_of_ble_eq_true rfl) dL_law_295 ⟨Nat.le_of_ble_eq_true rfl, Nat.le_of_ble_eq_true rfl⟩ zI_nr (fun v Mm' hMm' hF => ?_)
  obtain ⟨r', rfl, hE⟩ := hF
  refine zb_perm List.perm_append_comm ?_
  exact zb_icmp_eq (tgt := 958) C dL_law_298 rfl (fun _ => next _ _ hMx' hMm' (hE.2.up (by omega))) (fun hne => absurd hE.1.symm hne)
set_option maxRecDepth 100000 in
set_option maxHeartbeats 4000000 in
theorem lc_move {X : zY} {l : Launch} {b L : Nat} {xs : Nat → Int32} {aX aM : Nat → Nat} {q : Nat} {Mx Mm : zM} (h : lwH X l b L xs aX aM q Mx Mm) : zB X (zW (zYi X) aX Mx shX ++ zW (zYi X) aM Mm shM) 99 8103 303 (lvL b aX aM (4 * q)) [] := by
  obtain ⟨C, hXs, hL, hi, hMx, hMm, hP, next⟩ := h
  unfold lvL
  refine zb_aload_n (i := 1) C dL_law_303 rfl rfl ?_
  refine zb_arg C hXs (4 * (q : Int)) 1 rfl rfl (by omega) (by omega) rfl (by decide) (by omega) dL_law_304 dL_law_305 dL_law_306 dL_law_307 dL_law_308 ?_
  refine zb_arg C hXs (4 * (q : Int)) 2 rfl rfl (by omega) (by omega) rfl (by decide) (by omega) dL_law_309 dL_law_310 dL_law_311 dL_law_312 dL_law_313 ?_
  refine zb_arg C hXs (4 * (q : Int)) 3 rfl rfl (by omega) (by omega) rfl (by decide) (by omega) dL_law_314 dL_law_315 dL_law_316 dL_law_317 dL_law_318 ?_
  refine zb_callV (i := 70) (ci := 7) (shp := shX) (ad := aX) (M := Mx) (As := [zi (xs (4 * (q : Int) + 1).toNat).toInt, zi (xs (4 * (q : Int) + 2).toNat).toInt, zi (xs (4 * (q : Int) + 3).toNat).toInt]) (st := []) C hMx (wB_move l _ _ _ Mx (move_pair hP _ _ _ (zi_rng _))) zc_L_37 zv_X7_move rfl rfl rfl (zra3 (zi_rng _) (zi_rng _) (zi_rng _)) ⟨Nat.le_of_ble_eq_true rfl, Nat.le_of_ble_eq_true rfl⟩ rfl (fun _ h => (List.not_mem_nil h).elim) rfl (Nat.le_of_ble_eq_true rfl) dL_law_319 ⟨Nat.le_of_ble_eq_true rfl, Nat.le_of_ble_eq_true rfl⟩ zI_nr (fun v Mx' hMx' hF => ?_)
  obtain ⟨r, rfl, hJ⟩ := hF
  refine zb_perm List.perm_append_comm ?_
  refine zb_aload_n (i := 2) C dL_law_322 rfl rfl ?_
  refine zb_arg C hXs (4 * (q : Int)) 1 rfl rfl (by omega) (by omega) rfl (by decide) (by omega) dL_law_323 dL_law_324 dL_law_325 dL_law_326 dL_law_327 ?_
  refine zb_arg C hXs (4 * (q : Int)) 2 rfl rfl (by omega) (by omega) rfl (by decide) (by omega) dL_law_328 dL_law_329 dL_law_330 dL_law_331 dL_law_332 ?_
  refine zb_arg C hXs (4 * (q : Int)) 3 rfl rfl (by omega) (by omega) rfl (by decide) (by omega) dL_law_333 dL_law_334 dL_law_335 dL_law_336 dL_law_337 ?_
  refine zb_callV (i := 0) (ci := 8) (shp := shM) (ad := aM) (M := Mm) (As := [zi (xs (4 * (q : Int) + 1).toNat).toInt, zi (xs (4 * (q : Int) + 2).toNat).toInt, zi (xs (4 * (q : Int) + 3).toNat).toInt]) (st := [zi r]) C hMm (wM_move l _ _ _ Mm hJ) zc_L_40 zv_X8_move rfl rfl rfl (zra3 (zi_rng _) (zi_rng _) (zi_rng _)) ⟨Nat.le_of_ble_eq_true rfl, Nat.le_of_ble_eq_true rfl⟩ rfl (fun _ h => List.mem_append_right [zi (xs (4 * (q : Int) + 3).toNat).toInt, zi (xs (4 * (q : Int) + 2).toNat).toInt, zi (xs (4 * (q : Int) + 1).toNat).toInt, zr (aM 0)] h) rfl (Nat.le_of_ble_eq_true rfl) dL_law_338 ⟨Nat.le_of_ble_eq_true rfl, Nat.le_of_ble_eq_true rfl⟩ zI_nr (fun v Mm' hMm' hF => ?_)
  obtain ⟨r', rfl, hE⟩ := hF
  refine zb_perm List.perm_append_comm ?_
  exact zb_icmp_eq (tgt := 958) C dL_law_341 rfl (fun _ => next _ _ hMx' hMm' (hE.2.up (by omega))) (fun hne => absurd hE.1.symm hne)
set_option maxRecDepth 100000 in
set_option maxHeartbeats 4000000 in
theorem lc_swap {X : zY} {l : Launch} {b L : Nat} {xs : Nat → Int32} {aX aM : Nat → Nat} {q : Nat} {Mx Mm : zM} (h : lwH X l b L xs aX aM q Mx Mm) : zB X (zW (zYi X) aX Mx shX ++ zW (zYi X) aM Mm shM) 99 8103 346 (lvL b aX aM (4 * q)) [] := by
  obtain ⟨C, hXs, hL, hi, hMx, hMm, hP, next⟩ := h
  unfold lvL
  refine zb_aload_n (i := 1) C dL_law_346 rfl rfl ?_
  refine zb_arg C hXs (4 * (q : Int)) 1 rfl rfl (by omega) (by omega) rfl (by decide) (by omega) dL_law_347 dL_law_348 dL_law_349 dL_law_350 dL_law_351 ?_
  refine zb_arg C hXs (4 * (q : Int)) 2 rfl rfl (by omega) (by omega) rfl (by decide) (by omega) dL_law_352 dL_law_353 dL_law_354 dL_law_355 dL_law_356 ?_
  refine zb_callV (i := 70) (ci := 7) (shp := shX) (ad := aX) (M := Mx) (As := [zi (xs (4 * (q : Int) + 1).toNat).toInt, zi (xs (4 * (q : Int) + 2).toNat).toInt]) (st := []) C hMx (wB_swap l _ _ Mx (swap_pair hP _ _)) zc_L_41 zv_X7_swap rfl rfl rfl (zra2 (zi_rng _) (zi_rng _)) ⟨Nat.le_of_ble_eq_true rfl, Nat.le_of_ble_eq_true rfl⟩ rfl (fun _ h => (List.not_mem_nil h).elim) rfl (Nat.le_of_ble_eq_true rfl) dL_law_357 ⟨Nat.le_of_ble_eq_true rfl, Nat.le_of_ble_eq_true rfl⟩ zI_nr (fun v Mx' hMx' hF => ?_)
  obtain ⟨r, rfl, hJ⟩ := hF
  refine zb_perm List.perm_append_comm ?_
  refine zb_aload_n (i := 2) C dL_law_360 rfl rfl ?_
  refine zb_arg C hXs (4 * (q : Int)) 1 rfl rfl (by omega) (by omega) rfl (by decide) (by omega) dL_law_361 dL_law_362 dL_law_363 dL_law_364 dL_law_365 ?_
  refine zb_arg C hXs (4 * (q : Int)) 2 rfl rfl (by omega) (by omega) rfl (by decide) (by omega) dL_law_366 dL_law_367 dL_law_368 dL_law_369 dL_law_370 ?_
  refine zb_callV (i := 0) (ci := 8) (shp := shM) (ad := aM) (M := Mm) (As := [zi (xs (4 * (q : Int) + 1).toNat).toInt, zi (xs (4 * (q : Int) + 2).toNat).toInt]) (st := [zi r]) C hMm (wM_swap l _ _ Mm hJ) zc_L_44 zv_X8_swap rfl rfl rfl (zra2 (zi_rng _) (zi_rng _)) ⟨Nat.le_of_ble_eq_true rfl, Nat.le_of_ble_eq_true rfl⟩ rfl (fun _ h => List.mem_append_right [zi (xs (4 * (q : Int) + 2).toNat).toInt, zi (xs (4 * (q : Int) + 1).toNat).toInt, zr (aM 0)] h) rfl (Nat.le_of_ble_eq_true rfl) dL_law_371 ⟨Nat.le_of_ble_eq_true rfl, Nat.le_of_ble_eq_true rfl⟩ zI_nr (fun v Mm' hMm' hF => ?_)
  obtain ⟨r', rfl, hE⟩ := hF
  refine zb_perm List.perm_append_comm ?_
  exact zb_icmp_eq (tgt := 958) C dL_law_374 rfl (fun _ => next _ _ hMx' hMm' (hE.2.up (by omega))) (fun hne => absurd hE.1.symm hne)
set_option maxRecDepth 100000 in
set_option maxHeartbeats 4000000 in
theorem lc_pack {X : zY} {l : Launch} {b L : Nat} {xs : Nat → Int32} {aX aM : Nat → Nat} {q : Nat} {Mx Mm : zM} (h : lwH X l b L xs aX aM q Mx Mm) : zB X (zW (zYi X) aX Mx shX ++ zW (zYi X) aM Mm shM) 99 8103 379 (lvL b aX aM (4 * q)) [] := by
  obtain ⟨C, hXs, hL, hi, hMx, hMm, hP, next⟩ := h
  unfold lvL
  refine zb_aload_n (i := 1) C dL_law_379 rfl rfl ?_
  refine zb_callV (i := 70) (ci := 7) (shp := shX) (ad := aX) (M := Mx) (As := []) (st := []) C hMx (wB_pack l Mx (pack_pair hP)) zc_L_45 zv_X7_pack rfl rfl rfl (zra0) ⟨Nat.le_of_ble_eq_true rfl, Nat.le_of_ble_eq_true rfl⟩ rfl (fun _ h => (List.not_mem_nil h).elim) rfl (Nat.le_of_ble_eq_true rfl) dL_law_380 ⟨Nat.le_of_ble_eq_true rfl, Nat.le_of_ble_eq_true rfl⟩ zI_nr (fun v Mx' hMx' hF => ?_)
  obtain ⟨r, rfl, hJ⟩ := hF
  refine zb_perm List.perm_append_comm ?_
  refine zb_aload_n (i := 2) C dL_law_383 rfl rfl ?_
  refine zb_callV (i := 0) (ci := 8) (shp := shM) (ad := aM) (M := Mm) (As := []) (st := [zi r]) C hMm (wM_pack l Mm hJ) zc_L_48 zv_X8_pack rfl rfl rfl (zra0) ⟨Nat.le_of_ble_eq_true rfl, Nat.le_of_ble_eq_true rfl⟩ rfl (fun _ h => List.mem_append_right [zr (aM 0)] h) rfl (Nat.le_of_ble_eq_true rfl) dL_law_384 ⟨Nat.le_of_ble_eq_true rfl, Nat.le_of_ble_eq_true rfl⟩ zI_nr (fun v Mm' hMm' hF => ?_)
  obtain ⟨r', rfl, hE⟩ := hF
  refine zb_perm List.perm_append_comm ?_
  exact zb_icmp_eq (tgt := 958) C dL_law_387 rfl (fun _ => next _ _ hMx' hMm' (hE.2.up (by omega))) (fun hne => absurd hE.1.symm hne)
set_option maxRecDepth 100000 in
set_option maxHeartbeats 4000000 in
theorem lc_slip {X : zY} {l : Launch} {b L : Nat} {xs : Nat → Int32} {aX aM : Nat → Nat} {q : Nat} {Mx Mm : zM} (h : lwH X l b L xs aX aM q Mx Mm) : zB X (zW (zYi X) aX Mx shX ++ zW (zYi X) aM Mm shM) 99 8103 392 (lvL b aX aM (4 * q)) [] := by
  obtain ⟨C, hXs, hL, hi, hMx, hMm, hP, next⟩ := h
  unfold lvL
  refine zb_aload_n (i := 1) C dL_law_392 rfl rfl ?_
  refine zb_arg C hXs (4 * (q : Int)) 1 rfl rfl (by omega) (by omega) rfl (by decide) (by omega) dL_law_393 dL_law_394 dL_law_395 dL_law_396 dL_law_397 ?_
  refine zb_arg C hXs (4 * (q : Int)) 2 rfl rfl (by omega) (by omega) rfl (by decide) (by omega) dL_law_398 dL_law_399 dL_law_400 dL_law_401 dL_law_402 ?_
  refine zb_callV (i := 70) (ci := 7) (shp := shX) (ad := aX) (M := Mx) (As := [zi (xs (4 * (q : Int) + 1).toNat).toInt, zi (xs (4 * (q : Int) + 2).toNat).toInt]) (st := []) C hMx (wB_slip l _ _ Mx (slip_pair (by omega) hP _ _)) zc_L_49 zv_X7_slip rfl rfl rfl (zra2 (zi_rng _) (zi_rng _)) ⟨Nat.le_of_ble_eq_true rfl, Nat.le_of_ble_eq_true rfl⟩ rfl (fun _ h => (List.not_mem_nil h).elim) rfl (Nat.le_of_ble_eq_true rfl) dL_law_403 ⟨Nat.le_of_ble_eq_true rfl, Nat.le_of_ble_eq_true rfl⟩ zI_nr (fun v Mx' hMx' hF => ?_)
  obtain ⟨r, rfl, hJ⟩ := hF
  refine zb_perm List.perm_append_comm ?_
  refine zb_aload_n (i := 2) C dL_law_406 rfl rfl ?_
  refine zb_arg C hXs (4 * (q : Int)) 1 rfl rfl (by omega) (by omega) rfl (by decide) (by omega) dL_law_407 dL_law_408 dL_law_409 dL_law_410 dL_law_411 ?_
  refine zb_arg C hXs (4 * (q : Int)) 2 rfl rfl (by omega) (by omega) rfl (by decide) (by omega) dL_law_412 dL_law_413 dL_law_414 dL_law_415 dL_law_416 ?_
  refine zb_callV (i := 0) (ci := 8) (shp := shM) (ad := aM) (M := Mm) (As := [zi (xs (4 * (q : Int) + 1).toNat).toInt, zi (xs (4 * (q : Int) + 2).toNat).toInt]) (st := [zi r]) C hMm (wM_slip l _ _ Mm hJ) zc_L_52 zv_X8_slip rfl rfl rfl (zra2 (zi_rng _) (zi_rng _)) ⟨Nat.le_of_ble_eq_true rfl, Nat.le_of_ble_eq_true rfl⟩ rfl (fun _ h => List.mem_append_right [zi (xs (4 * (q : Int) + 2).toNat).toInt, zi (xs (4 * (q : Int) + 1).toNat).toInt, zr (aM 0)] h) rfl (Nat.le_of_ble_eq_true rfl) dL_law_417 ⟨Nat.le_of_ble_eq_true rfl, Nat.le_of_ble_eq_true rfl⟩ zI_nr (fun v Mm' hMm' hF => ?_)
  obtain ⟨r', rfl, hE⟩ := hF
  refine zb_perm List.perm_append_comm ?_
  exact zb_icmp_eq (tgt := 958) C dL_law_420 rfl (fun _ => next _ _ hMx' hMm' hE.2) (fun hne => absurd hE.1.symm hne)
set_option maxRecDepth 100000 in
set_option maxHeartbeats 4000000 in
theorem lc_pull {X : zY} {l : Launch} {b L : Nat} {xs : Nat → Int32} {aX aM : Nat → Nat} {q : Nat} {Mx Mm : zM} (h : lwH X l b L xs aX aM q Mx Mm) : zB X (zW (zYi X) aX Mx shX ++ zW (zYi X) aM Mm shM) 99 8103 425 (lvL b aX aM (4 * q)) [] := by
  obtain ⟨C, hXs, hL, hi, hMx, hMm, hP, next⟩ := h
  unfold lvL
  refine zb_aload_n (i := 1) C dL_law_425 rfl rfl ?_
  refine zb_arg C hXs (4 * (q : Int)) 1 rfl rfl (by omega) (by omega) rfl (by decide) (by omega) dL_law_426 dL_law_427 dL_law_428 dL_law_429 dL_law_430 ?_
  refine zb_callV (i := 70) (ci := 7) (shp := shX) (ad := aX) (M := Mx) (As := [zi (xs (4 * (q : Int) + 1).toNat).toInt]) (st := []) C hMx (wB_pull l _ Mx (pull_pair hP _)) zc_L_53 zv_X7_pull rfl rfl rfl (zra1 (zi_rng _)) ⟨Nat.le_of_ble_eq_true rfl, Nat.le_of_ble_eq_true rfl⟩ rfl (fun _ h => (List.not_mem_nil h).elim) rfl (Nat.le_of_ble_eq_true rfl) dL_law_431 ⟨Nat.le_of_ble_eq_true rfl, Nat.le_of_ble_eq_true rfl⟩ zI_nr (fun v Mx' hMx' hF => ?_)
  obtain ⟨r, rfl, hJ⟩ := hF
  refine zb_perm List.perm_append_comm ?_
  refine zb_aload_n (i := 2) C dL_law_434 rfl rfl ?_
  refine zb_arg C hXs (4 * (q : Int)) 1 rfl rfl (by omega) (by omega) rfl (by decide) (by omega) dL_law_435 dL_law_436 dL_law_437 dL_law_438 dL_law_439 ?_
  refine zb_callV (i := 0) (ci := 8) (shp := shM) (ad := aM) (M := Mm) (As := [zi (xs (4 * (q : Int) + 1).toNat).toInt]) (st := [zi r]) C hMm (wM_pull l _ Mm hJ) zc_L_56 zv_X8_pull rfl rfl rfl (zra1 (zi_rng _)) ⟨Nat.le_of_ble_eq_true rfl, Nat.le_of_ble_eq_true rfl⟩ rfl (fun _ h => List.mem_append_right [zi (xs (4 * (q : Int) + 1).toNat).toInt, zr (aM 0)] h) rfl (Nat.le_of_ble_eq_true rfl) dL_law_440 ⟨Nat.le_of_ble_eq_true rfl, Nat.le_of_ble_eq_true rfl⟩ zI_nr (fun v Mm' hMm' hF => ?_)
  obtain ⟨r', rfl, hE⟩ := hF
  refine zb_perm List.perm_append_comm ?_
  exact zb_icmp_eq (tgt := 958) C dL_law_443 rfl (fun _ => next _ _ hMx' hMm' (hE.2.up (by omega))) (fun hne => absurd hE.1.symm hne)
set_option maxRecDepth 100000 in
set_option maxHeartbeats 4000000 in
theorem lc_width {X : zY} {l : Launch} {b L : Nat} {xs : Nat → Int32} {aX aM : Nat → Nat} {q : Nat} {Mx Mm : zM} (h : lwH X l b L xs aX aM q Mx Mm) : zB X (zW (zYi X) aX Mx shX ++ zW (zYi X) aM Mm shM) 99 8103 448 (lvL b aX aM (4 * q)) [] := by
  obtain ⟨C, hXs, hL, hi, hMx, hMm, hP, next⟩ := h
  unfold lvL
  refine zb_aload_n (i := 1) C dL_law_448 rfl rfl ?_
  refine zb_arg C hXs (4 * (q : Int)) 1 rfl rfl (by omega) (by omega) rfl (by decide) (by omega) dL_law_449 dL_law_450 dL_law_451 dL_law_452 dL_law_453 ?_
  refine zb_arg C hXs (4 * (q : Int)) 2 rfl rfl (by omega) (by omega) rfl (by decide) (by omega) dL_law_454 dL_law_455 dL_law_456 dL_law_457 dL_law_458 ?_
  refine zb_arg C hXs (4 * (q : Int)) 3 rfl rfl (by omega) (by omega) rfl (by decide) (by omega) dL_law_459 dL_law_460 dL_law_461 dL_law_462 dL_law_463 ?_
  refine zb_callV (i := 70) (ci := 7) (shp := shX) (ad := aX) (M := Mx) (As := [zi (xs (4 * (q : Int) + 1).toNat).toInt, zi (xs (4 * (q : Int) + 2).toNat).toInt, zi (xs (4 * (q : Int) + 3).toNat).toInt]) (st := []) C hMx (wB_width l _ _ _ Mx (width_pair hP _ _ _)) zc_L_57 zv_X7_width rfl rfl rfl (zra3 (zi_rng _) (zi_rng _) (zi_rng _)) ⟨Nat.le_of_ble_eq_true rfl, Nat.le_of_ble_eq_true rfl⟩ rfl (fun _ h => (List.not_mem_nil h).elim) rfl (Nat.le_of_ble_eq_true rfl) dL_law_464 ⟨Nat.le_of_ble_eq_true rfl, Nat.le_of_ble_eq_true rfl⟩ zI_nr (fun v Mx' hMx' hF => ?_)
  obtain ⟨r, rfl, hJ⟩ := hF
  refine zb_perm List.perm_append_comm ?_
  refine zb_aload_n (i := 2) C dL_law_467 rfl rfl ?_
  refine zb_arg C hXs (4 * (q : Int)) 1 rfl rfl (by omega) (by omega) rfl (by decide) (by omega) dL_law_468 dL_law_469 dL_law_470 dL_law_471 dL_law_472 ?_
  refine zb_arg C hXs (4 * (q : Int)) 2 rfl rfl (by omega) (by omega) rfl (by decide) (by omega) dL_law_473 dL_law_474 dL_law_475 dL_law_476 dL_law_477 ?_
  refine zb_arg C hXs (4 * (q : Int)) 3 rfl rfl (by omega) (by omega) rfl (by decide) (by omega) dL_law_478 dL_law_479 dL_law_480 dL_law_481 dL_law_482 ?_
  refine zb_callV (i := 0) (ci := 8) (shp := shM) (ad := aM) (M := Mm) (As := [zi (xs (4 * (q : Int) + 1).toNat).toInt, zi (xs (4 * (q : Int) + 2).toNat).toInt, zi (xs (4 * (q : Int) + 3).toNat).toInt]) (st := [zi r]) C hMm (wM_width l _ _ _ Mm hJ) zc_L_60 zv_X8_width rfl rfl rfl (zra3 (zi_rng _) (zi_rng _) (zi_rng _)) ⟨Nat.le_of_ble_eq_true rfl, Nat.le_of_ble_eq_true rfl⟩ rfl (fun _ h => List.mem_append_right [zi (xs (4 * (q : Int) + 3).toNat).toInt, zi (xs (4 * (q : Int) + 2).toNat).toInt, zi (xs (4 * (q : Int) + 1).toNat).toInt, zr (aM 0)] h) rfl (Nat.le_of_ble_eq_true rfl) dL_law_483 ⟨Nat.le_of_ble_eq_true rfl, Nat.le_of_ble_eq_true rfl⟩ zI_nr (fun v Mm' hMm' hF => ?_)
  obtain ⟨r', rfl, hE⟩ := hF
  refine zb_perm List.perm_append_comm ?_
  exact zb_icmp_eq (tgt := 958) C dL_law_486 rfl (fun _ => next _ _ hMx' hMm' (hE.2.up (by omega))) (fun hne => absurd hE.1.symm hne)
set_option maxRecDepth 100000 in
set_option maxHeartbeats 4000000 in
theorem lc_set {X : zY} {l : Launch} {b L : Nat} {xs : Nat → Int32} {aX aM : Nat → Nat} {q : Nat} {Mx Mm : zM} (h : lwH X l b L xs aX aM q Mx Mm) : zB X (zW (zYi X) aX Mx shX ++ zW (zYi X) aM Mm shM) 99 8103 491 (lvL b aX aM (4 * q)) [] := by
  obtain ⟨C, hXs, hL, hi, hMx, hMm, hP, next⟩ := h
  unfold lvL
  refine zb_aload_n (i := 1) C dL_law_491 rfl rfl ?_
  refine zb_arg C hXs (4 * (q : Int)) 1 rfl rfl (by omega) (by omega) rfl (by decide) (by omega) dL_law_492 dL_law_493 dL_law_494 dL_law_495 dL_law_496 ?_
  refine zb_arg C hXs (4 * (q : Int)) 2 rfl rfl (by omega) (by omega) rfl (by decide) (by omega) dL_law_497 dL_law_498 dL_law_499 dL_law_500 dL_law_501 ?_
  refine zb_callV (i := 70) (ci := 7) (shp := shX) (ad := aX) (M := Mx) (As := [zi (xs (4 * (q : Int) + 1).toNat).toInt, zi (xs (4 * (q : Int) + 2).toNat).toInt]) (st := []) C hMx (wB_set l _ _ Mx (set_pair hP _ _)) zc_L_61 zv_X7_set rfl rfl rfl (zra2 (zi_rng _) (zi_rng _)) ⟨Nat.le_of_ble_eq_true rfl, Nat.le_of_ble_eq_true rfl⟩ rfl (fun _ h => (List.not_mem_nil h).elim) rfl (Nat.le_of_ble_eq_true rfl) dL_law_502 ⟨Nat.le_of_ble_eq_true rfl, Nat.le_of_ble_eq_true rfl⟩ zI_nr (fun v Mx' hMx' hF => ?_)
  obtain ⟨r, rfl, hJ⟩ := hF
  refine zb_perm List.perm_append_comm ?_
  refine zb_aload_n (i := 2) C dL_law_505 rfl rfl ?_
  refine zb_arg C hXs (4 * (q : Int)) 1 rfl rfl (by omega) (by omega) rfl (by decide) (by omega) dL_law_506 dL_law_507 dL_law_508 dL_law_509 dL_law_510 ?_
  refine zb_arg C hXs (4 * (q : Int)) 2 rfl rfl (by omega) (by omega) rfl (by decide) (by omega) dL_law_511 dL_law_512 dL_law_513 dL_law_514 dL_law_515 ?_
  refine zb_callV (i := 0) (ci := 8) (shp := shM) (ad := aM) (M := Mm) (As := [zi (xs (4 * (q : Int) + 1).toNat).toInt, zi (xs (4 * (q : Int) + 2).toNat).toInt]) (st := [zi r]) C hMm (wM_set l _ _ Mm hJ) zc_L_64 zv_X8_set rfl rfl rfl (zra2 (zi_rng _) (zi_rng _)) ⟨Nat.le_of_ble_eq_true rfl, Nat.le_of_ble_eq_true rfl⟩ rfl (fun _ h => List.mem_append_right [zi (xs (4 * (q : Int) + 2).toNat).toInt, zi (xs (4 * (q : Int) + 1).toNat).toInt, zr (aM 0)] h) rfl (Nat.le_of_ble_eq_true rfl) dL_law_516 ⟨Nat.le_of_ble_eq_true rfl, Nat.le_of_ble_eq_true rfl⟩ zI_nr (fun v Mm' hMm' hF => ?_)
  obtain ⟨r', rfl, hE⟩ := hF
  refine zb_perm List.perm_append_comm ?_
  exact zb_icmp_eq (tgt := 958) C dL_law_519 rfl (fun _ => next _ _ hMx' hMm' (hE.2.up (by omega))) (fun hne => absurd hE.1.symm hne)
set_option maxRecDepth 100000 in
set_option maxHeartbeats 4000000 in
theorem lc_type {X : zY} {l : Launch} {b L : Nat} {xs : Nat → Int32} {aX aM : Nat → Nat} {q : Nat} {Mx Mm : zM} (h : lwH X l b L xs aX aM q Mx Mm) : zB X (zW (zYi X) aX Mx shX ++ zW (zYi X) aM Mm shM) 99 8103 524 (lvL b aX aM (4 * q)) [] := by
  obtain ⟨C, hXs, hL, hi, hMx, hMm, hP, next⟩ := h
  unfold lvL
  refine zb_aload_n (i := 1) C dL_law_524 rfl rfl ?_
  refine zb_arg C hXs (4 * (q : Int)) 1 rfl rfl (by omega) (by omega) rfl (by decide) (by omega) dL_law_525 dL_law_526 dL_law_527 dL_law_528 dL_law_529 ?_
  refine zb_i2c C dL_law_530 ?_
  refine zb_callV (i := 70) (ci := 7) (shp := shX) (ad := aX) (M := Mx) (As := [zi ((xs (4 * (q : Int) + 1).toNat).toInt % 65536)]) (st := []) C hMx (wB_type l _ Mx (type_pair hP (by omega) (by omega))) zc_L_65 zv_X7_type rfl rfl rfl (zra1 (show i32 _ by have := zi_rng (xs (4 * (q : Int) + 1).toNat); omega)) ⟨Nat.le_of_ble_eq_true rfl, Nat.le_of_ble_eq_true rfl⟩ rfl (fun _ h => (List.not_mem_nil h).elim) rfl (Nat.le_of_ble_eq_true rfl) dL_law_531 ⟨Nat.le_of_ble_eq_true rfl, Nat.le_of_ble_eq_true rfl⟩ zI_nr (fun v Mx' hMx' hF => ?_)
  obtain ⟨r, rfl, hJ⟩ := hF
  refine zb_perm List.perm_append_comm ?_
  refine zb_aload_n (i := 2) C dL_law_534 rfl rfl ?_
  refine zb_arg C hXs (4 * (q : Int)) 1 rfl rfl (by omega) (by omega) rfl (by decide) (by omega) dL_law_535 dL_law_536 dL_law_537 dL_law_538 dL_law_539 ?_
  refine zb_i2c C dL_law_540 ?_
  refine zb_callV (i := 0) (ci := 8) (shp := shM) (ad := aM) (M := Mm) (As := [zi ((xs (4 * (q : Int) + 1).toNat).toInt % 65536)]) (st := [zi r]) C hMm (wM_type l _ Mm hJ) zc_L_69 zv_X8_type rfl rfl rfl (zra1 (show i32 _ by have := zi_rng (xs (4 * (q : Int) + 1).toNat); omega)) ⟨Nat.le_of_ble_eq_true rfl, Nat.le_of_ble_eq_true rfl⟩ rfl (fun _ h => List.mem_append_right [zi ((xs (4 * (q : Int) + 1).toNat).toInt % 65536), zr (aM 0)] h) rfl (Nat.le_of_ble_eq_true rfl) dL_law_541 ⟨Nat.le_of_ble_eq_true rfl, Nat.le_of_ble_eq_true rfl⟩ zI_nr (fun v Mm' hMm' hF => ?_)
  obtain ⟨r', rfl, hE⟩ := hF
  refine zb_perm List.perm_append_comm ?_
  exact zb_icmp_eq (tgt := 958) C dL_law_544 rfl (fun _ => next _ _ hMx' hMm' (hE.2.up (by omega))) (fun hne => absurd hE.1.symm hne)
set_option maxRecDepth 100000 in
set_option maxHeartbeats 4000000 in
theorem lc_clearText {X : zY} {l : Launch} {b L : Nat} {xs : Nat → Int32} {aX aM : Nat → Nat} {q : Nat} {Mx Mm : zM} (h : lwH X l b L xs aX aM q Mx Mm) : zB X (zW (zYi X) aX Mx shX ++ zW (zYi X) aM Mm shM) 99 8103 549 (lvL b aX aM (4 * q)) [] := by
  obtain ⟨C, hXs, hL, hi, hMx, hMm, hP, next⟩ := h
  unfold lvL
  refine zb_aload_n (i := 1) C dL_law_549 rfl rfl ?_
  refine zb_callV (i := 70) (ci := 7) (shp := shX) (ad := aX) (M := Mx) (As := []) (st := []) C hMx (wB_clearText l Mx (clearText_pair hP)) zc_L_70 zv_X7_clearText rfl rfl rfl (zra0) ⟨Nat.le_of_ble_eq_true rfl, Nat.le_of_ble_eq_true rfl⟩ rfl (fun _ h => (List.not_mem_nil h).elim) rfl (Nat.le_of_ble_eq_true rfl) dL_law_550 ⟨Nat.le_of_ble_eq_true rfl, Nat.le_of_ble_eq_true rfl⟩ zI_nr (fun v Mx' hMx' hF => ?_)
  obtain ⟨r, rfl, hJ⟩ := hF
  refine zb_perm List.perm_append_comm ?_
  refine zb_aload_n (i := 2) C dL_law_553 rfl rfl ?_
  refine zb_callV (i := 0) (ci := 8) (shp := shM) (ad := aM) (M := Mm) (As := []) (st := [zi r]) C hMm (wM_clearText l Mm hJ) zc_L_73 zv_X8_clearText rfl rfl rfl (zra0) ⟨Nat.le_of_ble_eq_true rfl, Nat.le_of_ble_eq_true rfl⟩ rfl (fun _ h => List.mem_append_right [zr (aM 0)] h) rfl (Nat.le_of_ble_eq_true rfl) dL_law_554 ⟨Nat.le_of_ble_eq_true rfl, Nat.le_of_ble_eq_true rfl⟩ zI_nr (fun v Mm' hMm' hF => ?_)
  obtain ⟨r', rfl, hE⟩ := hF
  refine zb_perm List.perm_append_comm ?_
  exact zb_icmp_eq (tgt := 958) C dL_law_557 rfl (fun _ => next _ _ hMx' hMm' (hE.2.up (by omega))) (fun hne => absurd hE.1.symm hne)
set_option maxRecDepth 100000 in
set_option maxHeartbeats 4000000 in
theorem lc_fault {X : zY} {l : Launch} {b L : Nat} {xs : Nat → Int32} {aX aM : Nat → Nat} {q : Nat} {Mx Mm : zM} (h : lwH X l b L xs aX aM q Mx Mm) : zB X (zW (zYi X) aX Mx shX ++ zW (zYi X) aM Mm shM) 99 8103 562 (lvL b aX aM (4 * q)) [] := by
  obtain ⟨C, hXs, hL, hi, hMx, hMm, hP, next⟩ := h
  unfold lvL
  refine zb_aload_n (i := 1) C dL_law_562 rfl rfl ?_
  refine zb_callV (i := 70) (ci := 7) (shp := shX) (ad := aX) (M := Mx) (As := []) (st := []) C hMx (wB_fault l Mx (fault_pair hP)) zc_L_74 zv_X7_fault rfl rfl rfl (zra0) ⟨Nat.le_of_ble_eq_true rfl, Nat.le_of_ble_eq_true rfl⟩ rfl (fun _ h => (List.not_mem_nil h).elim) rfl (Nat.le_of_ble_eq_true rfl) dL_law_563 ⟨Nat.le_of_ble_eq_true rfl, Nat.le_of_ble_eq_true rfl⟩ zI_nr (fun v Mx' hMx' hF => ?_)
  obtain ⟨r, rfl, hJ⟩ := hF
  refine zb_perm List.perm_append_comm ?_
  refine zb_aload_n (i := 2) C dL_law_566 rfl rfl ?_
  refine zb_callV (i := 0) (ci := 8) (shp := shM) (ad := aM) (M := Mm) (As := []) (st := [zi r]) C hMm (wM_fault l Mm hJ) zc_L_77 zv_X8_fault rfl rfl rfl (zra0) ⟨Nat.le_of_ble_eq_true rfl, Nat.le_of_ble_eq_true rfl⟩ rfl (fun _ h => List.mem_append_right [zr (aM 0)] h) rfl (Nat.le_of_ble_eq_true rfl) dL_law_567 ⟨Nat.le_of_ble_eq_true rfl, Nat.le_of_ble_eq_true rfl⟩ zI_nr (fun v Mm' hMm' hF => ?_)
  obtain ⟨r', rfl, hE⟩ := hF
  refine zb_perm List.perm_append_comm ?_
  exact zb_icmp_eq (tgt := 958) C dL_law_570 rfl (fun _ => next _ _ hMx' hMm' (hE.2.up (by omega))) (fun hne => absurd hE.1.symm hne)
set_option maxRecDepth 100000 in
set_option maxHeartbeats 4000000 in
theorem lc_undo {X : zY} {l : Launch} {b L : Nat} {xs : Nat → Int32} {aX aM : Nat → Nat} {q : Nat} {Mx Mm : zM} (h : lwH X l b L xs aX aM q Mx Mm) : zB X (zW (zYi X) aX Mx shX ++ zW (zYi X) aM Mm shM) 99 8103 575 (lvL b aX aM (4 * q)) [] := by
  obtain ⟨C, hXs, hL, hi, hMx, hMm, hP, next⟩ := h
  unfold lvL
  refine zb_aload_n (i := 1) C dL_law_575 rfl rfl ?_
  refine zb_callV (i := 70) (ci := 7) (shp := shX) (ad := aX) (M := Mx) (As := []) (st := []) C hMx (wB_undo l Mx (undo_pair hP)) zc_L_78 zv_X7_undo rfl rfl rfl (zra0) ⟨Nat.le_of_ble_eq_true rfl, Nat.le_of_ble_eq_true rfl⟩ rfl (fun _ h => (List.not_mem_nil h).elim) rfl (Nat.le_of_ble_eq_true rfl) dL_law_576 ⟨Nat.le_of_ble_eq_true rfl, Nat.le_of_ble_eq_true rfl⟩ zI_nr (fun v Mx' hMx' hF => ?_)
  obtain ⟨r, rfl, hJ⟩ := hF
  refine zb_perm List.perm_append_comm ?_
  refine zb_aload_n (i := 2) C dL_law_579 rfl rfl ?_
  refine zb_callV (i := 0) (ci := 8) (shp := shM) (ad := aM) (M := Mm) (As := []) (st := [zi r]) C hMm (wM_undo l Mm hJ) zc_L_81 zv_X8_undo rfl rfl rfl (zra0) ⟨Nat.le_of_ble_eq_true rfl, Nat.le_of_ble_eq_true rfl⟩ rfl (fun _ h => List.mem_append_right [zr (aM 0)] h) rfl (Nat.le_of_ble_eq_true rfl) dL_law_580 ⟨Nat.le_of_ble_eq_true rfl, Nat.le_of_ble_eq_true rfl⟩ zI_nr (fun v Mm' hMm' hF => ?_)
  obtain ⟨r', rfl, hE⟩ := hF
  refine zb_perm List.perm_append_comm ?_
  exact zb_icmp_eq (tgt := 958) C dL_law_583 rfl (fun _ => next _ _ hMx' hMm' (hE.2.up (by omega))) (fun hne => absurd hE.1.symm hne)
set_option maxRecDepth 100000 in
set_option maxHeartbeats 4000000 in
theorem lc_keep {X : zY} {l : Launch} {b L : Nat} {xs : Nat → Int32} {aX aM : Nat → Nat} {q : Nat} {Mx Mm : zM} (h : lwH X l b L xs aX aM q Mx Mm) : zB X (zW (zYi X) aX Mx shX ++ zW (zYi X) aM Mm shM) 99 8103 588 (lvL b aX aM (4 * q)) [] := by
  obtain ⟨C, hXs, hL, hi, hMx, hMm, hP, next⟩ := h
  unfold lvL
  refine zb_aload_n (i := 1) C dL_law_588 rfl rfl ?_
  refine zb_callV (i := 70) (ci := 7) (shp := shX) (ad := aX) (M := Mx) (As := []) (st := []) C hMx (wB_keep l Mx (keep_pair hP)) zc_L_82 zv_X7_keep rfl rfl rfl (zra0) ⟨Nat.le_of_ble_eq_true rfl, Nat.le_of_ble_eq_true rfl⟩ rfl (fun _ h => (List.not_mem_nil h).elim) rfl (Nat.le_of_ble_eq_true rfl) dL_law_589 ⟨Nat.le_of_ble_eq_true rfl, Nat.le_of_ble_eq_true rfl⟩ zI_nr (fun v Mx' hMx' hF => ?_)
  obtain ⟨r, rfl, hJ⟩ := hF
  refine zb_perm List.perm_append_comm ?_
  refine zb_aload_n (i := 2) C dL_law_592 rfl rfl ?_
  refine zb_callV (i := 0) (ci := 8) (shp := shM) (ad := aM) (M := Mm) (As := []) (st := [zi r]) C hMm (wM_keep l Mm hJ) zc_L_85 zv_X8_keep rfl rfl rfl (zra0) ⟨Nat.le_of_ble_eq_true rfl, Nat.le_of_ble_eq_true rfl⟩ rfl (fun _ h => List.mem_append_right [zr (aM 0)] h) rfl (Nat.le_of_ble_eq_true rfl) dL_law_593 ⟨Nat.le_of_ble_eq_true rfl, Nat.le_of_ble_eq_true rfl⟩ zI_nr (fun v Mm' hMm' hF => ?_)
  obtain ⟨r', rfl, hE⟩ := hF
  refine zb_perm List.perm_append_comm ?_
  exact zb_icmp_eq (tgt := 958) C dL_law_596 rfl (fun _ => next _ _ hMx' hMm' (hE.2.up (by omega))) (fun hne => absurd hE.1.symm hne)
set_option maxRecDepth 100000 in
set_option maxHeartbeats 4000000 in
theorem lc_restore {X : zY} {l : Launch} {b L : Nat} {xs : Nat → Int32} {aX aM : Nat → Nat} {q : Nat} {Mx Mm : zM} (h : lwH X l b L xs aX aM q Mx Mm) : zB X (zW (zYi X) aX Mx shX ++ zW (zYi X) aM Mm shM) 99 8103 601 (lvL b aX aM (4 * q)) [] := by
  obtain ⟨C, hXs, hL, hi, hMx, hMm, hP, next⟩ := h
  unfold lvL
  refine zb_aload_n (i := 1) C dL_law_601 rfl rfl ?_
  refine zb_callV (i := 70) (ci := 7) (shp := shX) (ad := aX) (M := Mx) (As := []) (st := []) C hMx (wB_restore l Mx (restore_pair hP)) zc_L_86 zv_X7_restore rfl rfl rfl (zra0) ⟨Nat.le_of_ble_eq_true rfl, Nat.le_of_ble_eq_true rfl⟩ rfl (fun _ h => (List.not_mem_nil h).elim) rfl (Nat.le_of_ble_eq_true rfl) dL_law_602 ⟨Nat.le_of_ble_eq_true rfl, Nat.le_of_ble_eq_true rfl⟩ zI_nr (fun v Mx' hMx' hF => ?_)
  obtain ⟨r, rfl, hJ⟩ := hF
  refine zb_perm List.perm_append_comm ?_
  refine zb_aload_n (i := 2) C dL_law_605 rfl rfl ?_
  refine zb_callV (i := 0) (ci := 8) (shp := shM) (ad := aM) (M := Mm) (As := []) (st := [zi r]) C hMm (wM_restore l Mm hJ) zc_L_89 zv_X8_restore rfl rfl rfl (zra0) ⟨Nat.le_of_ble_eq_true rfl, Nat.le_of_ble_eq_true rfl⟩ rfl (fun _ h => List.mem_append_right [zr (aM 0)] h) rfl (Nat.le_of_ble_eq_true rfl) dL_law_606 ⟨Nat.le_of_ble_eq_true rfl, Nat.le_of_ble_eq_true rfl⟩ zI_nr (fun v Mm' hMm' hF => ?_)
  obtain ⟨r', rfl, hE⟩ := hF
  refine zb_perm List.perm_append_comm ?_
  exact zb_icmp_eq (tgt := 958) C dL_law_609 rfl (fun _ => next _ _ hMx' hMm' (hE.2.up (by omega))) (fun hne => absurd hE.1.symm hne)
set_option maxRecDepth 100000 in
set_option maxHeartbeats 4000000 in
theorem lc_barOf {X : zY} {l : Launch} {b L : Nat} {xs : Nat → Int32} {aX aM : Nat → Nat} {q : Nat} {Mx Mm : zM} (h : lwH X l b L xs aX aM q Mx Mm) : zB X (zW (zYi X) aX Mx shX ++ zW (zYi X) aM Mm shM) 99 8103 614 (lvL b aX aM (4 * q)) [] := by
  obtain ⟨C, hXs, hL, hi, hMx, hMm, hP, next⟩ := h
  unfold lvL
  refine zb_aload_n (i := 1) C dL_law_614 rfl rfl ?_
  refine zb_arg C hXs (4 * (q : Int)) 1 rfl rfl (by omega) (by omega) rfl (by decide) (by omega) dL_law_615 dL_law_616 dL_law_617 dL_law_618 dL_law_619 ?_
  refine zb_arg C hXs (4 * (q : Int)) 2 rfl rfl (by omega) (by omega) rfl (by decide) (by omega) dL_law_620 dL_law_621 dL_law_622 dL_law_623 dL_law_624 ?_
  refine zb_callV (i := 70) (ci := 7) (shp := shX) (ad := aX) (M := Mx) (As := [zi (xs (4 * (q : Int) + 1).toNat).toInt, zi (xs (4 * (q : Int) + 2).toNat).toInt]) (st := []) C hMx (wB_barOf l _ _ Mx (barOf_pair hP _ _)) zc_L_90 zv_X7_barOf rfl rfl rfl (zra2 (zi_rng _) (zi_rng _)) ⟨Nat.le_of_ble_eq_true rfl, Nat.le_of_ble_eq_true rfl⟩ rfl (fun _ h => (List.not_mem_nil h).elim) rfl (Nat.le_of_ble_eq_true rfl) dL_law_625 ⟨Nat.le_of_ble_eq_true rfl, Nat.le_of_ble_eq_true rfl⟩ zI_nr (fun v Mx' hMx' hF => ?_)
  obtain ⟨r, rfl, hJ⟩ := hF
  refine zb_perm List.perm_append_comm ?_
  refine zb_aload_n (i := 2) C dL_law_628 rfl rfl ?_
  refine zb_arg C hXs (4 * (q : Int)) 1 rfl rfl (by omega) (by omega) rfl (by decide) (by omega) dL_law_629 dL_law_630 dL_law_631 dL_law_632 dL_law_633 ?_
  refine zb_arg C hXs (4 * (q : Int)) 2 rfl rfl (by omega) (by omega) rfl (by decide) (by omega) dL_law_634 dL_law_635 dL_law_636 dL_law_637 dL_law_638 ?_
  refine zb_callV (i := 0) (ci := 8) (shp := shM) (ad := aM) (M := Mm) (As := [zi (xs (4 * (q : Int) + 1).toNat).toInt, zi (xs (4 * (q : Int) + 2).toNat).toInt]) (st := [zi r]) C hMm (wM_barOf l _ _ Mm hJ) zc_L_93 zv_X8_barOf rfl rfl rfl (zra2 (zi_rng _) (zi_rng _)) ⟨Nat.le_of_ble_eq_true rfl, Nat.le_of_ble_eq_true rfl⟩ rfl (fun _ h => List.mem_append_right [zi (xs (4 * (q : Int) + 2).toNat).toInt, zi (xs (4 * (q : Int) + 1).toNat).toInt, zr (aM 0)] h) rfl (Nat.le_of_ble_eq_true rfl) dL_law_639 ⟨Nat.le_of_ble_eq_true rfl, Nat.le_of_ble_eq_true rfl⟩ zI_nr (fun v Mm' hMm' hF => ?_)
  obtain ⟨r', rfl, hE⟩ := hF
  refine zb_perm List.perm_append_comm ?_
  exact zb_icmp_eq (tgt := 958) C dL_law_642 rfl (fun _ => next _ _ hMx' hMm' (hE.2.up (by omega))) (fun hne => absurd hE.1.symm hne)
set_option maxRecDepth 100000 in
set_option maxHeartbeats 4000000 in
theorem lc_arrowOf {X : zY} {l : Launch} {b L : Nat} {xs : Nat → Int32} {aX aM : Nat → Nat} {q : Nat} {Mx Mm : zM} (h : lwH X l b L xs aX aM q Mx Mm) : zB X (zW (zYi X) aX Mx shX ++ zW (zYi X) aM Mm shM) 99 8103 647 (lvL b aX aM (4 * q)) [] := by
  obtain ⟨C, hXs, hL, hi, hMx, hMm, hP, next⟩ := h
  unfold lvL
  refine zb_aload_n (i := 1) C dL_law_647 rfl rfl ?_
  refine zb_arg C hXs (4 * (q : Int)) 1 rfl rfl (by omega) (by omega) rfl (by decide) (by omega) dL_law_648 dL_law_649 dL_law_650 dL_law_651 dL_law_652 ?_
  refine zb_arg C hXs (4 * (q : Int)) 2 rfl rfl (by omega) (by omega) rfl (by decide) (by omega) dL_law_653 dL_law_654 dL_law_655 dL_law_656 dL_law_657 ?_
  refine zb_callV (i := 70) (ci := 7) (shp := shX) (ad := aX) (M := Mx) (As := [zi (xs (4 * (q : Int) + 1).toNat).toInt, zi (xs (4 * (q : Int) + 2).toNat).toInt]) (st := []) C hMx (wB_arrowOf l _ _ Mx (arrowOf_pair hP _ _)) zc_L_94 zv_X7_arrowOf rfl rfl rfl (zra2 (zi_rng _) (zi_rng _)) ⟨Nat.le_of_ble_eq_true rfl, Nat.le_of_ble_eq_true rfl⟩ rfl (fun _ h => (List.not_mem_nil h).elim) rfl (Nat.le_of_ble_eq_true rfl) dL_law_658 ⟨Nat.le_of_ble_eq_true rfl, Nat.le_of_ble_eq_true rfl⟩ zI_nr (fun v Mx' hMx' hF => ?_)
  obtain ⟨r, rfl, hJ⟩ := hF
  refine zb_perm List.perm_append_comm ?_
  refine zb_aload_n (i := 2) C dL_law_661 rfl rfl ?_
  refine zb_arg C hXs (4 * (q : Int)) 1 rfl rfl (by omega) (by omega) rfl (by decide) (by omega) dL_law_662 dL_law_663 dL_law_664 dL_law_665 dL_law_666 ?_
  refine zb_arg C hXs (4 * (q : Int)) 2 rfl rfl (by omega) (by omega) rfl (by decide) (by omega) dL_law_667 dL_law_668 dL_law_669 dL_law_670 dL_law_671 ?_
  refine zb_callV (i := 0) (ci := 8) (shp := shM) (ad := aM) (M := Mm) (As := [zi (xs (4 * (q : Int) + 1).toNat).toInt, zi (xs (4 * (q : Int) + 2).toNat).toInt]) (st := [zi r]) C hMm (wM_arrowOf l _ _ Mm hJ) zc_L_97 zv_X8_arrowOf rfl rfl rfl (zra2 (zi_rng _) (zi_rng _)) ⟨Nat.le_of_ble_eq_true rfl, Nat.le_of_ble_eq_true rfl⟩ rfl (fun _ h => List.mem_append_right [zi (xs (4 * (q : Int) + 2).toNat).toInt, zi (xs (4 * (q : Int) + 1).toNat).toInt, zr (aM 0)] h) rfl (Nat.le_of_ble_eq_true rfl) dL_law_672 ⟨Nat.le_of_ble_eq_true rfl, Nat.le_of_ble_eq_true rfl⟩ zI_nr (fun v Mm' hMm' hF => ?_)
  obtain ⟨r', rfl, hE⟩ := hF
  refine zb_perm List.perm_append_comm ?_
  exact zb_icmp_eq (tgt := 958) C dL_law_675 rfl (fun _ => next _ _ hMx' hMm' (hE.2.up (by omega))) (fun hne => absurd hE.1.symm hne)
set_option maxRecDepth 100000 in
set_option maxHeartbeats 4000000 in
theorem lc_reason {X : zY} {l : Launch} {b L : Nat} {xs : Nat → Int32} {aX aM : Nat → Nat} {q : Nat} {Mx Mm : zM} (h : lwH X l b L xs aX aM q Mx Mm) : zB X (zW (zYi X) aX Mx shX ++ zW (zYi X) aM Mm shM) 99 8103 680 (lvL b aX aM (4 * q)) [] := by
  obtain ⟨C, hXs, hL, hi, hMx, hMm, hP, next⟩ := h
  unfold lvL
  refine zb_aload_n (i := 1) C dL_law_680 rfl rfl ?_
  refine zb_arg C hXs (4 * (q : Int)) 1 rfl rfl (by omega) (by omega) rfl (by decide) (by omega) dL_law_681 dL_law_682 dL_law_683 dL_law_684 dL_law_685 ?_
  refine zb_arg C hXs (4 * (q : Int)) 2 rfl rfl (by omega) (by omega) rfl (by decide) (by omega) dL_law_686 dL_law_687 dL_law_688 dL_law_689 dL_law_690 ?_
  refine zb_callV (i := 70) (ci := 7) (shp := shX) (ad := aX) (M := Mx) (As := [zi (xs (4 * (q : Int) + 1).toNat).toInt, zi (xs (4 * (q : Int) + 2).toNat).toInt]) (st := []) C hMx (wB_reason l _ _ Mx (reason_pair hP _ _)) zc_L_98 zv_X7_reason rfl rfl rfl (zra2 (zi_rng _) (zi_rng _)) ⟨Nat.le_of_ble_eq_true rfl, Nat.le_of_ble_eq_true rfl⟩ rfl (fun _ h => (List.not_mem_nil h).elim) rfl (Nat.le_of_ble_eq_true rfl) dL_law_691 ⟨Nat.le_of_ble_eq_true rfl, Nat.le_of_ble_eq_true rfl⟩ zI_nr (fun v Mx' hMx' hF => ?_)
  obtain ⟨r, rfl, hJ⟩ := hF
  refine zb_perm List.perm_append_comm ?_
  refine zb_aload_n (i := 2) C dL_law_694 rfl rfl ?_
  refine zb_arg C hXs (4 * (q : Int)) 1 rfl rfl (by omega) (by omega) rfl (by decide) (by omega) dL_law_695 dL_law_696 dL_law_697 dL_law_698 dL_law_699 ?_
  refine zb_arg C hXs (4 * (q : Int)) 2 rfl rfl (by omega) (by omega) rfl (by decide) (by omega) dL_law_700 dL_law_701 dL_law_702 dL_law_703 dL_law_704 ?_
  refine zb_callV (i := 0) (ci := 8) (shp := shM) (ad := aM) (M := Mm) (As := [zi (xs (4 * (q : Int) + 1).toNat).toInt, zi (xs (4 * (q : Int) + 2).toNat).toInt]) (st := [zi r]) C hMm (wM_reason l _ _ Mm hJ) zc_L_101 zv_X8_reason rfl rfl rfl (zra2 (zi_rng _) (zi_rng _)) ⟨Nat.le_of_ble_eq_true rfl, Nat.le_of_ble_eq_true rfl⟩ rfl (fun _ h => List.mem_append_right [zi (xs (4 * (q : Int) + 2).toNat).toInt, zi (xs (4 * (q : Int) + 1).toNat).toInt, zr (aM 0)] h) rfl (Nat.le_of_ble_eq_true rfl) dL_law_705 ⟨Nat.le_of_ble_eq_true rfl, Nat.le_of_ble_eq_true rfl⟩ zI_nr (fun v Mm' hMm' hF => ?_)
  obtain ⟨r', rfl, eMm, hE⟩ := hF
  subst eMm
  refine zb_perm List.perm_append_comm ?_
  exact zb_icmp_eq (tgt := 958) C dL_law_708 rfl (fun _ => next _ _ hMx' hMm (hE.2.up (by omega))) (fun hne => absurd hE.1.symm hne)
set_option maxRecDepth 100000 in
set_option maxHeartbeats 4000000 in
theorem lc_cell {X : zY} {l : Launch} {b L : Nat} {xs : Nat → Int32} {aX aM : Nat → Nat} {q : Nat} {Mx Mm : zM} (h : lwH X l b L xs aX aM q Mx Mm) : zB X (zW (zYi X) aX Mx shX ++ zW (zYi X) aM Mm shM) 99 8103 713 (lvL b aX aM (4 * q)) [] := by
  obtain ⟨C, hXs, hL, hi, hMx, hMm, hP, next⟩ := h
  unfold lvL
  refine zb_aload_n (i := 1) C dL_law_713 rfl rfl ?_
  refine zb_arg C hXs (4 * (q : Int)) 1 rfl rfl (by omega) (by omega) rfl (by decide) (by omega) dL_law_714 dL_law_715 dL_law_716 dL_law_717 dL_law_718 ?_
  refine zb_arg C hXs (4 * (q : Int)) 2 rfl rfl (by omega) (by omega) rfl (by decide) (by omega) dL_law_719 dL_law_720 dL_law_721 dL_law_722 dL_law_723 ?_
  refine zb_callV (i := 70) (ci := 7) (shp := shX) (ad := aX) (M := Mx) (As := [zi (xs (4 * (q : Int) + 1).toNat).toInt, zi (xs (4 * (q : Int) + 2).toNat).toInt]) (st := []) C hMx (wB_cell l _ _ Mx (cell_pair hP _ _)) zc_L_102 zv_X7_cell rfl rfl rfl (zra2 (zi_rng _) (zi_rng _)) ⟨Nat.le_of_ble_eq_true rfl, Nat.le_of_ble_eq_true rfl⟩ rfl (fun _ h => (List.not_mem_nil h).elim) rfl (Nat.le_of_ble_eq_true rfl) dL_law_724 ⟨Nat.le_of_ble_eq_true rfl, Nat.le_of_ble_eq_true rfl⟩ zI_nr (fun v Mx' hMx' hF => ?_)
  obtain ⟨r, rfl, eMx, hJ⟩ := hF
  subst eMx
  refine zb_perm List.perm_append_comm ?_
  refine zb_aload_n (i := 2) C dL_law_727 rfl rfl ?_
  refine zb_arg C hXs (4 * (q : Int)) 1 rfl rfl (by omega) (by omega) rfl (by decide) (by omega) dL_law_728 dL_law_729 dL_law_730 dL_law_731 dL_law_732 ?_
  refine zb_arg C hXs (4 * (q : Int)) 2 rfl rfl (by omega) (by omega) rfl (by decide) (by omega) dL_law_733 dL_law_734 dL_law_735 dL_law_736 dL_law_737 ?_
  refine zb_callV (i := 0) (ci := 8) (shp := shM) (ad := aM) (M := Mm) (As := [zi (xs (4 * (q : Int) + 1).toNat).toInt, zi (xs (4 * (q : Int) + 2).toNat).toInt]) (st := [zi r]) C hMm (wM_cell l _ _ Mm hJ) zc_L_105 zv_X8_cell rfl rfl rfl (zra2 (zi_rng _) (zi_rng _)) ⟨Nat.le_of_ble_eq_true rfl, Nat.le_of_ble_eq_true rfl⟩ rfl (fun _ h => List.mem_append_right [zi (xs (4 * (q : Int) + 2).toNat).toInt, zi (xs (4 * (q : Int) + 1).toNat).toInt, zr (aM 0)] h) rfl (Nat.le_of_ble_eq_true rfl) dL_law_738 ⟨Nat.le_of_ble_eq_true rfl, Nat.le_of_ble_eq_true rfl⟩ zI_nr (fun v Mm' hMm' hF => ?_)
  obtain ⟨r', rfl, eMm, hE⟩ := hF
  subst eMm
  refine zb_perm List.perm_append_comm ?_
  exact zb_icmp_eq (tgt := 958) C dL_law_741 rfl (fun _ => next _ _ hMx hMm (hP.up (by omega))) (fun hne => absurd hE.symm hne)
set_option maxRecDepth 100000 in
set_option maxHeartbeats 4000000 in
theorem lc_strip {X : zY} {l : Launch} {b L : Nat} {xs : Nat → Int32} {aX aM : Nat → Nat} {q : Nat} {Mx Mm : zM} (h : lwH X l b L xs aX aM q Mx Mm) : zB X (zW (zYi X) aX Mx shX ++ zW (zYi X) aM Mm shM) 99 8103 746 (lvL b aX aM (4 * q)) [] := by
  obtain ⟨C, hXs, hL, hi, hMx, hMm, hP, next⟩ := h
  unfold lvL
  refine zb_aload_n (i := 1) C dL_law_746 rfl rfl ?_
  refine zb_arg C hXs (4 * (q : Int)) 1 rfl rfl (by omega) (by omega) rfl (by decide) (by omega) dL_law_747 dL_law_748 dL_law_749 dL_law_750 dL_law_751 ?_
  refine zb_arg C hXs (4 * (q : Int)) 2 rfl rfl (by omega) (by omega) rfl (by decide) (by omega) dL_law_752 dL_law_753 dL_law_754 dL_law_755 dL_law_756 ?_
  refine zb_callV (i := 70) (ci := 7) (shp := shX) (ad := aX) (M := Mx) (As := [zi (xs (4 * (q : Int) + 1).toNat).toInt, zi (xs (4 * (q : Int) + 2).toNat).toInt]) (st := []) C hMx (wB_strip l _ _ Mx (strip_pair hP _ _)) zc_L_106 zv_X7_strip rfl rfl rfl (zra2 (zi_rng _) (zi_rng _)) ⟨Nat.le_of_ble_eq_true rfl, Nat.le_of_ble_eq_true rfl⟩ rfl (fun _ h => (List.not_mem_nil h).elim) rfl (Nat.le_of_ble_eq_true rfl) dL_law_757 ⟨Nat.le_of_ble_eq_true rfl, Nat.le_of_ble_eq_true rfl⟩ zI_nr (fun v Mx' hMx' hF => ?_)
  obtain ⟨r, rfl, hJ⟩ := hF
  refine zb_perm List.perm_append_comm ?_
  refine zb_aload_n (i := 2) C dL_law_760 rfl rfl ?_
  refine zb_arg C hXs (4 * (q : Int)) 1 rfl rfl (by omega) (by omega) rfl (by decide) (by omega) dL_law_761 dL_law_762 dL_law_763 dL_law_764 dL_law_765 ?_
  refine zb_arg C hXs (4 * (q : Int)) 2 rfl rfl (by omega) (by omega) rfl (by decide) (by omega) dL_law_766 dL_law_767 dL_law_768 dL_law_769 dL_law_770 ?_
  refine zb_callV (i := 0) (ci := 8) (shp := shM) (ad := aM) (M := Mm) (As := [zi (xs (4 * (q : Int) + 1).toNat).toInt, zi (xs (4 * (q : Int) + 2).toNat).toInt]) (st := [zi r]) C hMm (wM_strip l _ _ Mm hJ) zc_L_109 zv_X8_strip rfl rfl rfl (zra2 (zi_rng _) (zi_rng _)) ⟨Nat.le_of_ble_eq_true rfl, Nat.le_of_ble_eq_true rfl⟩ rfl (fun _ h => List.mem_append_right [zi (xs (4 * (q : Int) + 2).toNat).toInt, zi (xs (4 * (q : Int) + 1).toNat).toInt, zr (aM 0)] h) rfl (Nat.le_of_ble_eq_true rfl) dL_law_771 ⟨Nat.le_of_ble_eq_true rfl, Nat.le_of_ble_eq_true rfl⟩ zI_nr (fun v Mm' hMm' hF => ?_)
  obtain ⟨r', rfl, eMm, hE⟩ := hF
  subst eMm
  refine zb_perm List.perm_append_comm ?_
  exact zb_icmp_eq (tgt := 958) C dL_law_774 rfl (fun _ => next _ _ hMx' hMm (hE.2.up (by omega))) (fun hne => absurd hE.1.symm hne)
set_option maxRecDepth 100000 in
set_option maxHeartbeats 4000000 in
theorem lc_count {X : zY} {l : Launch} {b L : Nat} {xs : Nat → Int32} {aX aM : Nat → Nat} {q : Nat} {Mx Mm : zM} (h : lwH X l b L xs aX aM q Mx Mm) : zB X (zW (zYi X) aX Mx shX ++ zW (zYi X) aM Mm shM) 99 8103 779 (lvL b aX aM (4 * q)) [] := by
  obtain ⟨C, hXs, hL, hi, hMx, hMm, hP, next⟩ := h
  unfold lvL
  refine zb_aload_n (i := 1) C dL_law_779 rfl rfl ?_
  refine zb_arg C hXs (4 * (q : Int)) 1 rfl rfl (by omega) (by omega) rfl (by decide) (by omega) dL_law_780 dL_law_781 dL_law_782 dL_law_783 dL_law_784 ?_
  refine zb_callV (i := 70) (ci := 7) (shp := shX) (ad := aX) (M := Mx) (As := [zi (xs (4 * (q : Int) + 1).toNat).toInt]) (st := []) C hMx (wB_count l _ Mx (count_pair hP _)) zc_L_110 zv_X7_count rfl rfl rfl (zra1 (zi_rng _)) ⟨Nat.le_of_ble_eq_true rfl, Nat.le_of_ble_eq_true rfl⟩ rfl (fun _ h => (List.not_mem_nil h).elim) rfl (Nat.le_of_ble_eq_true rfl) dL_law_785 ⟨Nat.le_of_ble_eq_true rfl, Nat.le_of_ble_eq_true rfl⟩ zI_nr (fun v Mx' hMx' hF => ?_)
  obtain ⟨r, rfl, hJ⟩ := hF
  refine zb_perm List.perm_append_comm ?_
  refine zb_aload_n (i := 2) C dL_law_788 rfl rfl ?_
  refine zb_arg C hXs (4 * (q : Int)) 1 rfl rfl (by omega) (by omega) rfl (by decide) (by omega) dL_law_789 dL_law_790 dL_law_791 dL_law_792 dL_law_793 ?_
  refine zb_callV (i := 0) (ci := 8) (shp := shM) (ad := aM) (M := Mm) (As := [zi (xs (4 * (q : Int) + 1).toNat).toInt]) (st := [zi r]) C hMm (wM_count l _ Mm hJ) zc_L_113 zv_X8_count rfl rfl rfl (zra1 (zi_rng _)) ⟨Nat.le_of_ble_eq_true rfl, Nat.le_of_ble_eq_true rfl⟩ rfl (fun _ h => List.mem_append_right [zi (xs (4 * (q : Int) + 1).toNat).toInt, zr (aM 0)] h) rfl (Nat.le_of_ble_eq_true rfl) dL_law_794 ⟨Nat.le_of_ble_eq_true rfl, Nat.le_of_ble_eq_true rfl⟩ zI_nr (fun v Mm' hMm' hF => ?_)
  obtain ⟨r', rfl, hE⟩ := hF
  refine zb_perm List.perm_append_comm ?_
  exact zb_icmp_eq (tgt := 958) C dL_law_797 rfl (fun _ => next _ _ hMx' hMm' (hE.2.up (by omega))) (fun hne => absurd hE.1.symm hne)
set_option maxRecDepth 100000 in
set_option maxHeartbeats 4000000 in
theorem lc_latest {X : zY} {l : Launch} {b L : Nat} {xs : Nat → Int32} {aX aM : Nat → Nat} {q : Nat} {Mx Mm : zM} (h : lwH X l b L xs aX aM q Mx Mm) : zB X (zW (zYi X) aX Mx shX ++ zW (zYi X) aM Mm shM) 99 8103 802 (lvL b aX aM (4 * q)) [] := by
  obtain ⟨C, hXs, hL, hi, hMx, hMm, hP, next⟩ := h
  unfold lvL
  refine zb_aload_n (i := 1) C dL_law_802 rfl rfl ?_
  refine zb_arg C hXs (4 * (q : Int)) 1 rfl rfl (by omega) (by omega) rfl (by decide) (by omega) dL_law_803 dL_law_804 dL_law_805 dL_law_806 dL_law_807 ?_
  refine zb_callV (i := 70) (ci := 7) (shp := shX) (ad := aX) (M := Mx) (As := [zi (xs (4 * (q : Int) + 1).toNat).toInt]) (st := []) C hMx (wB_latest l _ Mx (latest_pair hP _)) zc_L_114 zv_X7_latest rfl rfl rfl (zra1 (zi_rng _)) ⟨Nat.le_of_ble_eq_true rfl, Nat.le_of_ble_eq_true rfl⟩ rfl (fun _ h => (List.not_mem_nil h).elim) rfl (Nat.le_of_ble_eq_true rfl) dL_law_808 ⟨Nat.le_of_ble_eq_true rfl, Nat.le_of_ble_eq_true rfl⟩ zI_nr (fun v Mx' hMx' hF => ?_)
  obtain ⟨r, rfl, hJ⟩ := hF
  refine zb_perm List.perm_append_comm ?_
  refine zb_aload_n (i := 2) C dL_law_811 rfl rfl ?_
  refine zb_arg C hXs (4 * (q : Int)) 1 rfl rfl (by omega) (by omega) rfl (by decide) (by omega) dL_law_812 dL_law_813 dL_law_814 dL_law_815 dL_law_816 ?_
  refine zb_callV (i := 0) (ci := 8) (shp := shM) (ad := aM) (M := Mm) (As := [zi (xs (4 * (q : Int) + 1).toNat).toInt]) (st := [zi r]) C hMm (wM_latest l _ Mm hJ) zc_L_117 zv_X8_latest rfl rfl rfl (zra1 (zi_rng _)) ⟨Nat.le_of_ble_eq_true rfl, Nat.le_of_ble_eq_true rfl⟩ rfl (fun _ h => List.mem_append_right [zi (xs (4 * (q : Int) + 1).toNat).toInt, zr (aM 0)] h) rfl (Nat.le_of_ble_eq_true rfl) dL_law_817 ⟨Nat.le_of_ble_eq_true rfl, Nat.le_of_ble_eq_true rfl⟩ zI_nr (fun v Mm' hMm' hF => ?_)
  obtain ⟨r', rfl, hE⟩ := hF
  refine zb_perm List.perm_append_comm ?_
  exact zb_icmp_eq (tgt := 958) C dL_law_820 rfl (fun _ => next _ _ hMx' hMm' (hE.2.up (by omega))) (fun hne => absurd hE.1.symm hne)
set_option maxRecDepth 100000 in
set_option maxHeartbeats 4000000 in
theorem lc_longest {X : zY} {l : Launch} {b L : Nat} {xs : Nat → Int32} {aX aM : Nat → Nat} {q : Nat} {Mx Mm : zM} (h : lwH X l b L xs aX aM q Mx Mm) : zB X (zW (zYi X) aX Mx shX ++ zW (zYi X) aM Mm shM) 99 8103 825 (lvL b aX aM (4 * q)) [] := by
  obtain ⟨C, hXs, hL, hi, hMx, hMm, hP, next⟩ := h
  unfold lvL
  refine zb_aload_n (i := 1) C dL_law_825 rfl rfl ?_
  refine zb_callV (i := 70) (ci := 7) (shp := shX) (ad := aX) (M := Mx) (As := []) (st := []) C hMx (wB_longest l Mx (longest_pair hP)) zc_L_118 zv_X7_longest rfl rfl rfl (zra0) ⟨Nat.le_of_ble_eq_true rfl, Nat.le_of_ble_eq_true rfl⟩ rfl (fun _ h => (List.not_mem_nil h).elim) rfl (Nat.le_of_ble_eq_true rfl) dL_law_826 ⟨Nat.le_of_ble_eq_true rfl, Nat.le_of_ble_eq_true rfl⟩ zI_nr (fun v Mx' hMx' hF => ?_)
  obtain ⟨r, rfl, hJ⟩ := hF
  refine zb_perm List.perm_append_comm ?_
  refine zb_aload_n (i := 2) C dL_law_829 rfl rfl ?_
  refine zb_callV (i := 0) (ci := 8) (shp := shM) (ad := aM) (M := Mm) (As := []) (st := [zi r]) C hMm (wM_longest l Mm hJ) zc_L_121 zv_X8_longest rfl rfl rfl (zra0) ⟨Nat.le_of_ble_eq_true rfl, Nat.le_of_ble_eq_true rfl⟩ rfl (fun _ h => List.mem_append_right [zr (aM 0)] h) rfl (Nat.le_of_ble_eq_true rfl) dL_law_830 ⟨Nat.le_of_ble_eq_true rfl, Nat.le_of_ble_eq_true rfl⟩ zI_nr (fun v Mm' hMm' hF => ?_)
  obtain ⟨r', rfl, hE⟩ := hF
  refine zb_perm List.perm_append_comm ?_
  exact zb_icmp_eq (tgt := 958) C dL_law_833 rfl (fun _ => next _ _ hMx' hMm' (hE.2.up (by omega))) (fun hne => absurd hE.1.symm hne)
set_option maxRecDepth 100000 in
set_option maxHeartbeats 4000000 in
theorem lc_ifSlipped {X : zY} {l : Launch} {b L : Nat} {xs : Nat → Int32} {aX aM : Nat → Nat} {q : Nat} {Mx Mm : zM} (h : lwH X l b L xs aX aM q Mx Mm) : zB X (zW (zYi X) aX Mx shX ++ zW (zYi X) aM Mm shM) 99 8103 879 (lvL b aX aM (4 * q)) [] := by
  obtain ⟨C, hXs, hL, hi, hMx, hMm, hP, next⟩ := h
  unfold lvL
  refine zb_aload_n (i := 1) C dL_law_879 rfl rfl ?_
  refine zb_arg C hXs (4 * (q : Int)) 1 rfl rfl (by omega) (by omega) rfl (by decide) (by omega) dL_law_880 dL_law_881 dL_law_882 dL_law_883 dL_law_884 ?_
  refine zb_arg C hXs (4 * (q : Int)) 2 rfl rfl (by omega) (by omega) rfl (by decide) (by omega) dL_law_885 dL_law_886 dL_law_887 dL_law_888 dL_law_889 ?_
  refine zb_callV (i := 70) (ci := 7) (shp := shX) (ad := aX) (M := Mx) (As := [zi (xs (4 * (q : Int) + 1).toNat).toInt, zi (xs (4 * (q : Int) + 2).toNat).toInt]) (st := []) C hMx (wB_ifSlipped l _ _ Mx (ifSlipped_pair (by omega) hP _ _)) zc_L_127 zv_X7_ifSlipped rfl rfl rfl (zra2 (zi_rng _) (zi_rng _)) ⟨Nat.le_of_ble_eq_true rfl, Nat.le_of_ble_eq_true rfl⟩ rfl (fun _ h => (List.not_mem_nil h).elim) rfl (Nat.le_of_ble_eq_true rfl) dL_law_890 ⟨Nat.le_of_ble_eq_true rfl, Nat.le_of_ble_eq_true rfl⟩ zI_nr (fun v Mx' hMx' hF => ?_)
  obtain ⟨r, rfl, hJ⟩ := hF
  refine zb_perm List.perm_append_comm ?_
  refine zb_aload_n (i := 2) C dL_law_893 rfl rfl ?_
  refine zb_arg C hXs (4 * (q : Int)) 1 rfl rfl (by omega) (by omega) rfl (by decide) (by omega) dL_law_894 dL_law_895 dL_law_896 dL_law_897 dL_law_898 ?_
  refine zb_arg C hXs (4 * (q : Int)) 2 rfl rfl (by omega) (by omega) rfl (by decide) (by omega) dL_law_899 dL_law_900 dL_law_901 dL_law_902 dL_law_903 ?_
  refine zb_callV (i := 0) (ci := 8) (shp := shM) (ad := aM) (M := Mm) (As := [zi (xs (4 * (q : Int) + 1).toNat).toInt, zi (xs (4 * (q : Int) + 2).toNat).toInt]) (st := [zi r]) C hMm (wM_ifSlipped l _ _ Mm hJ) zc_L_130 zv_X8_ifSlipped rfl rfl rfl (zra2 (zi_rng _) (zi_rng _)) ⟨Nat.le_of_ble_eq_true rfl, Nat.le_of_ble_eq_true rfl⟩ rfl (fun _ h => List.mem_append_right [zi (xs (4 * (q : Int) + 2).toNat).toInt, zi (xs (4 * (q : Int) + 1).toNat).toInt, zr (aM 0)] h) rfl (Nat.le_of_ble_eq_true rfl) dL_law_904 ⟨Nat.le_of_ble_eq_true rfl, Nat.le_of_ble_eq_true rfl⟩ zI_nr (fun v Mm' hMm' hF => ?_)
  obtain ⟨r', rfl, hE⟩ := hF
  refine zb_perm List.perm_append_comm ?_
  exact zb_icmp_eq (tgt := 958) C dL_law_907 rfl (fun _ => next _ _ hMx' hMm' (hE.2.up (by omega))) (fun hne => absurd hE.1.symm hne)
set_option maxRecDepth 100000 in
set_option maxHeartbeats 4000000 in
theorem lc_bestSwap {X : zY} {l : Launch} {b L : Nat} {xs : Nat → Int32} {aX aM : Nat → Nat} {q : Nat} {Mx Mm : zM} (h : lwH X l b L xs aX aM q Mx Mm) : zB X (zW (zYi X) aX Mx shX ++ zW (zYi X) aM Mm shM) 99 8103 912 (lvL b aX aM (4 * q)) [] := by
  obtain ⟨C, hXs, hL, hi, hMx, hMm, hP, next⟩ := h
  unfold lvL
  refine zb_aload_n (i := 1) C dL_law_912 rfl rfl ?_
  refine zb_arg C hXs (4 * (q : Int)) 1 rfl rfl (by omega) (by omega) rfl (by decide) (by omega) dL_law_913 dL_law_914 dL_law_915 dL_law_916 dL_law_917 ?_
  refine zb_callV (i := 70) (ci := 7) (shp := shX) (ad := aX) (M := Mx) (As := [zi (xs (4 * (q : Int) + 1).toNat).toInt]) (st := []) C hMx (wB_bestSwap l _ Mx (bestSwap_pair hP _)) zc_L_131 zv_X7_bestSwap rfl rfl rfl (zra1 (zi_rng _)) ⟨Nat.le_of_ble_eq_true rfl, Nat.le_of_ble_eq_true rfl⟩ rfl (fun _ h => (List.not_mem_nil h).elim) rfl (Nat.le_of_ble_eq_true rfl) dL_law_918 ⟨Nat.le_of_ble_eq_true rfl, Nat.le_of_ble_eq_true rfl⟩ zI_nr (fun v Mx' hMx' hF => ?_)
  obtain ⟨r, rfl, hJ⟩ := hF
  refine zb_perm List.perm_append_comm ?_
  refine zb_aload_n (i := 2) C dL_law_921 rfl rfl ?_
  refine zb_arg C hXs (4 * (q : Int)) 1 rfl rfl (by omega) (by omega) rfl (by decide) (by omega) dL_law_922 dL_law_923 dL_law_924 dL_law_925 dL_law_926 ?_
  refine zb_callV (i := 0) (ci := 8) (shp := shM) (ad := aM) (M := Mm) (As := [zi (xs (4 * (q : Int) + 1).toNat).toInt]) (st := [zi r]) C hMm (wM_bestSwap l _ Mm hJ) zc_L_134 zv_X8_bestSwap rfl rfl rfl (zra1 (zi_rng _)) ⟨Nat.le_of_ble_eq_true rfl, Nat.le_of_ble_eq_true rfl⟩ rfl (fun _ h => List.mem_append_right [zi (xs (4 * (q : Int) + 1).toNat).toInt, zr (aM 0)] h) rfl (Nat.le_of_ble_eq_true rfl) dL_law_927 ⟨Nat.le_of_ble_eq_true rfl, Nat.le_of_ble_eq_true rfl⟩ zI_nr (fun v Mm' hMm' hF => ?_)
  obtain ⟨r', rfl, hE⟩ := hF
  refine zb_perm List.perm_append_comm ?_
  exact zb_icmp_eq (tgt := 958) C dL_law_930 rfl (fun _ => next _ _ hMx' hMm' (hE.2.up (by omega))) (fun hne => absurd hE.1.symm hne)
set_option maxRecDepth 100000 in
set_option maxHeartbeats 4000000 in
theorem lc_bestLane {X : zY} {l : Launch} {b L : Nat} {xs : Nat → Int32} {aX aM : Nat → Nat} {q : Nat} {Mx Mm : zM} (h : lwH X l b L xs aX aM q Mx Mm) : zB X (zW (zYi X) aX Mx shX ++ zW (zYi X) aM Mm shM) 99 8103 935 (lvL b aX aM (4 * q)) [] := by
  obtain ⟨C, hXs, hL, hi, hMx, hMm, hP, next⟩ := h
  unfold lvL
  refine zb_aload_n (i := 1) C dL_law_935 rfl rfl ?_
  refine zb_arg C hXs (4 * (q : Int)) 1 rfl rfl (by omega) (by omega) rfl (by decide) (by omega) dL_law_936 dL_law_937 dL_law_938 dL_law_939 dL_law_940 ?_
  refine zb_callV (i := 70) (ci := 7) (shp := shX) (ad := aX) (M := Mx) (As := [zi (xs (4 * (q : Int) + 1).toNat).toInt]) (st := []) C hMx (wB_bestLane l _ Mx (bestLane_pair hP _)) zc_L_135 zv_X7_bestLane rfl rfl rfl (zra1 (zi_rng _)) ⟨Nat.le_of_ble_eq_true rfl, Nat.le_of_ble_eq_true rfl⟩ rfl (fun _ h => (List.not_mem_nil h).elim) rfl (Nat.le_of_ble_eq_true rfl) dL_law_941 ⟨Nat.le_of_ble_eq_true rfl, Nat.le_of_ble_eq_true rfl⟩ zI_nr (fun v Mx' hMx' hF => ?_)
  obtain ⟨r, rfl, hJ⟩ := hF
  refine zb_perm List.perm_append_comm ?_
  refine zb_aload_n (i := 2) C dL_law_944 rfl rfl ?_
  refine zb_arg C hXs (4 * (q : Int)) 1 rfl rfl (by omega) (by omega) rfl (by decide) (by omega) dL_law_945 dL_law_946 dL_law_947 dL_law_948 dL_law_949 ?_
  refine zb_callV (i := 0) (ci := 8) (shp := shM) (ad := aM) (M := Mm) (As := [zi (xs (4 * (q : Int) + 1).toNat).toInt]) (st := [zi r]) C hMm (wM_bestLane l _ Mm hJ) zc_L_138 zv_X8_bestLane rfl rfl rfl (zra1 (zi_rng _)) ⟨Nat.le_of_ble_eq_true rfl, Nat.le_of_ble_eq_true rfl⟩ rfl (fun _ h => List.mem_append_right [zi (xs (4 * (q : Int) + 1).toNat).toInt, zr (aM 0)] h) rfl (Nat.le_of_ble_eq_true rfl) dL_law_950 ⟨Nat.le_of_ble_eq_true rfl, Nat.le_of_ble_eq_true rfl⟩ zI_nr (fun v Mm' hMm' hF => ?_)
  obtain ⟨r', rfl, hE⟩ := hF
  refine zb_perm List.perm_append_comm ?_
  exact zb_icmp_eq (tgt := 958) C dL_law_953 rfl (fun _ => next _ _ hMx' hMm' (hE.2.up (by omega))) (fun hne => absurd hE.1.symm hne)
