set_option maxRecDepth 100000 in
set_option maxHeartbeats 4000000 in
theorem wL_isArrowSo (l : Launch) (a2 : Int) (M : zM) {Φ : Int → zM → Prop} (hJ : jL_isArrowSo a2 M Φ) : zMet l yL_isArrowSo cL_isArrowSo 16 (some .boolean) 7 159 shX [zr 70, zi a2] M (zI Φ) := by
  refine zq_enter [some (zr 70), some (zi a2), none, none, none, none, none, none, none, none, none, none, none, none, none, none] (by decide) rfl (Nat.le_of_ble_eq_true rfl) rfl (fun X C => ?_)
  unfold jL_isArrowSo at hJ
  have hj381 : ∀ (M : zM), jL_isArrowSo_J381 a2 Φ M → zG X M 381 [some (zr 70), some (zi a2), none, none, none, none, none, none, none, none, none, none, none, none, none, none] [] := by
    intro M hJ
    unfold jL_isArrowSo_J381 at hJ
    refine zq_iconst (x := 1) C dL_isArrowSo_381 rfl ik_1 ?_
    refine zq_goto (tgt := 386) C dL_isArrowSo_382 rfl ?_
    exact zq_zret C rfl (Or.inr rfl) ⟨_, rfl, hJ⟩ dL_isArrowSo_386
  have hj351 : ∀ (x6 s0 s1 : Int) (M : zM), jL_isArrowSo_J351 a2 Φ x6 s0 s1 M → zG X M 351 [some (zr 70), some (zi a2), none, none, none, none, some (zi x6), none, none, none, none, none, none, none, none, none] [zi s1, zi s0] := by
    intro x6 s0 s1 M hJ
    unfold jL_isArrowSo_J351 at hJ
    refine zq_icmp_ne (tgt := 385) C dL_isArrowSo_351 rfl (fun h27 => ?_) (fun h27 => ?_)
    · have hJ := hJ.1 h27
      refine zq_iconst (x := 0) C dL_isArrowSo_385 rfl ik_0 ?_
      exact zq_zret C rfl (Or.inl rfl) ⟨_, rfl, hJ⟩ dL_isArrowSo_386
    · have hJ := hJ.2 h27
      refine zq_iload C dL_isArrowSo_354 rfl ?_
      refine zq_if_ge (tgt := 381) C dL_isArrowSo_356 rfl (fun h26 => ?_) (fun h26 => ?_)
      · have hJ := hJ.1 h26
        refine zq_weak [some (zr 70), some (zi a2), none, none, none, none, none, none, none, none, none, none, none, none, none, none] ⟨Or.inr rfl, Or.inr rfl, Or.inl rfl, Or.inl rfl, Or.inl rfl, Or.inl rfl, Or.inl rfl, Or.inl rfl, Or.inl rfl, Or.inl rfl, Or.inl rfl, Or.inl rfl, Or.inl rfl, Or.inl rfl, Or.inl rfl, Or.inl rfl, trivial⟩ ?_
        exact hj381 _ hJ
      · have hJ := hJ.2 h26
        refine zq_aload_n (i := 0) C dL_isArrowSo_359 rfl rfl ?_
        refine zq_iload_n (i := 1) C dL_isArrowSo_360 rfl rfl ?_
        refine zq_bipush (x := 6) C dL_isArrowSo_361 bi_6 ik_6 ?_
        refine zq_callVi C [zi a2, zi 6] (wB_arrowOf l _ _ _  hJ) ck_L_23 iv_X7_arrowOf rfl sx70 rfl rfl rfl rfl rfl rfl dL_isArrowSo_363 (fun r20 M21 hJ => ?_)
        refine zq_if_ne (tgt := 385) C dL_isArrowSo_366 rfl (fun h25 => ?_) (fun h25 => ?_)
        · have hJ := hJ.1 h25
          refine zq_iconst (x := 0) C dL_isArrowSo_385 rfl ik_0 ?_
          exact zq_zret C rfl (Or.inl rfl) ⟨_, rfl, hJ⟩ dL_isArrowSo_386
        · have hJ := hJ.2 h25
          refine zq_aload_n (i := 0) C dL_isArrowSo_369 rfl rfl ?_
          refine zq_iload_n (i := 1) C dL_isArrowSo_370 rfl rfl ?_
          refine zq_bipush (x := 7) C dL_isArrowSo_371 bi_7 ik_7 ?_
          refine zq_callVi C [zi a2, zi 7] (wB_arrowOf l _ _ _  hJ) ck_L_23 iv_X7_arrowOf rfl sx70 rfl rfl rfl rfl rfl rfl dL_isArrowSo_373 (fun r22 M23 hJ => ?_)
          refine zq_bipush (x := (-5)) C dL_isArrowSo_376 bi_m5 ik_m5 ?_
          refine zq_icmp_ne (tgt := 385) C dL_isArrowSo_378 rfl (fun h24 => ?_) (fun h24 => ?_)
          · have hJ := hJ.1 h24
            refine zq_iconst (x := 0) C dL_isArrowSo_385 rfl ik_0 ?_
            exact zq_zret C rfl (Or.inl rfl) ⟨_, rfl, hJ⟩ dL_isArrowSo_386
          · have hJ := hJ.2 h24
            refine zq_weak [some (zr 70), some (zi a2), none, none, none, none, none, none, none, none, none, none, none, none, none, none] ⟨Or.inr rfl, Or.inr rfl, Or.inl rfl, Or.inl rfl, Or.inl rfl, Or.inl rfl, Or.inl rfl, Or.inl rfl, Or.inl rfl, Or.inl rfl, Or.inl rfl, Or.inl rfl, Or.inl rfl, Or.inl rfl, Or.inl rfl, Or.inl rfl, trivial⟩ ?_
            exact hj381 _ hJ
  have hj341 : ∀ (x6 s0 : Int) (M : zM), jL_isArrowSo_J341 a2 Φ x6 s0 M → zG X M 341 [some (zr 70), some (zi a2), none, none, none, none, some (zi x6), none, none, none, none, none, none, none, none, none] [zi s0] := by
    intro x6 s0 M hJ
    unfold jL_isArrowSo_J341 at hJ
    refine zq_iload C dL_isArrowSo_341 rfl ?_
    refine zq_if_ge (tgt := 350) C dL_isArrowSo_343 rfl (fun h28 => ?_) (fun h28 => ?_)
    · have hJ := hJ.1 h28
      refine zq_iconst (x := 0) C dL_isArrowSo_350 rfl ik_0 ?_
      exact hj351 _ _ _ _ hJ
    · have hJ := hJ.2 h28
      refine zq_iconst (x := 1) C dL_isArrowSo_346 rfl ik_1 ?_
      refine zq_goto (tgt := 351) C dL_isArrowSo_347 rfl ?_
      exact hj351 _ _ _ _ hJ
  have hj324 : ∀ (x6 s0 s1 : Int) (M : zM), jL_isArrowSo_J324 a2 Φ x6 s0 s1 M → zG X M 324 [some (zr 70), some (zi a2), none, none, none, none, some (zi x6), none, none, none, none, none, none, none, none, none] [zi s1, zi s0] := by
    intro x6 s0 s1 M hJ
    unfold jL_isArrowSo_J324 at hJ
    refine zq_icmp_ne (tgt := 385) C dL_isArrowSo_324 rfl (fun h30 => ?_) (fun h30 => ?_)
    · have hJ := hJ.1 h30
      refine zq_iconst (x := 0) C dL_isArrowSo_385 rfl ik_0 ?_
      exact zq_zret C rfl (Or.inl rfl) ⟨_, rfl, hJ⟩ dL_isArrowSo_386
    · have hJ := hJ.2 h30
      refine zq_aload_n (i := 0) C dL_isArrowSo_327 rfl rfl ?_
      refine zq_iload_n (i := 1) C dL_isArrowSo_328 rfl rfl ?_
      refine zq_iconst (x := 5) C dL_isArrowSo_329 rfl ik_5 ?_
      refine zq_callVi C [zi a2, zi 5] (wB_arrowOf l _ _ _  hJ) ck_L_23 iv_X7_arrowOf rfl sx70 rfl rfl rfl rfl rfl rfl dL_isArrowSo_330 (fun r18 M19 hJ => ?_)
      refine zq_if_ge (tgt := 340) C dL_isArrowSo_333 rfl (fun h29 => ?_) (fun h29 => ?_)
      · have hJ := hJ.1 h29
        refine zq_iconst (x := 0) C dL_isArrowSo_340 rfl ik_0 ?_
        exact hj341 _ _ _ hJ
      · have hJ := hJ.2 h29
        refine zq_iconst (x := 1) C dL_isArrowSo_336 rfl ik_1 ?_
        refine zq_goto (tgt := 341) C dL_isArrowSo_337 rfl ?_
        exact hj341 _ _ _ hJ
  have hj319 : ∀ (x6 s0 : Int) (M : zM), jL_isArrowSo_J319 a2 Φ x6 s0 M → zG X M 319 [some (zr 70), some (zi a2), none, none, none, none, some (zi x6), none, none, none, none, none, none, none, none, none] [zi s0] := by
    intro x6 s0 M hJ
    unfold jL_isArrowSo_J319 at hJ
    refine zq_iconst (x := 1) C dL_isArrowSo_319 rfl ik_1 ?_
    refine zq_goto (tgt := 324) C dL_isArrowSo_320 rfl ?_
    exact hj324 _ _ _ _ hJ
  have hj309 : ∀ (x6 x7 x10 s0 : Int) (M : zM), jL_isArrowSo_J309 a2 Φ x6 x7 x10 s0 M → zG X M 309 [some (zr 70), some (zi a2), none, none, none, none, some (zi x6), some (zi x7), none, none, some (zi x10), none, none, none, none, none] [zi s0] := by
    intro x6 x7 x10 s0 M hJ
    unfold jL_isArrowSo_J309 at hJ
    refine zq_iload C dL_isArrowSo_309 rfl ?_
    refine zq_if_gt (tgt := 319) C dL_isArrowSo_311 rfl (fun h32 => ?_) (fun h32 => ?_)
    · have hJ := hJ.1 h32
      refine zq_weak [some (zr 70), some (zi a2), none, none, none, none, some (zi x6), none, none, none, none, none, none, none, none, none] ⟨Or.inr rfl, Or.inr rfl, Or.inl rfl, Or.inl rfl, Or.inl rfl, Or.inl rfl, Or.inr rfl, Or.inl rfl, Or.inl rfl, Or.inl rfl, Or.inl rfl, Or.inl rfl, Or.inl rfl, Or.inl rfl, Or.inl rfl, Or.inl rfl, trivial⟩ ?_
      exact hj319 _ _ _ hJ
    · have hJ := hJ.2 h32
      refine zq_iload C dL_isArrowSo_314 rfl ?_
      refine zq_if_ne (tgt := 323) C dL_isArrowSo_316 rfl (fun h31 => ?_) (fun h31 => ?_)
      · have hJ := hJ.1 h31
        refine zq_iconst (x := 0) C dL_isArrowSo_323 rfl ik_0 ?_
        refine zq_weak [some (zr 70), some (zi a2), none, none, none, none, some (zi x6), none, none, none, none, none, none, none, none, none] ⟨Or.inr rfl, Or.inr rfl, Or.inl rfl, Or.inl rfl, Or.inl rfl, Or.inl rfl, Or.inr rfl, Or.inl rfl, Or.inl rfl, Or.inl rfl, Or.inl rfl, Or.inl rfl, Or.inl rfl, Or.inl rfl, Or.inl rfl, Or.inl rfl, trivial⟩ ?_
        exact hj324 _ _ _ _ hJ
      · have hJ := hJ.2 h31
        refine zq_weak [some (zr 70), some (zi a2), none, none, none, none, some (zi x6), none, none, none, none, none, none, none, none, none] ⟨Or.inr rfl, Or.inr rfl, Or.inl rfl, Or.inl rfl, Or.inl rfl, Or.inl rfl, Or.inr rfl, Or.inl rfl, Or.inl rfl, Or.inl rfl, Or.inl rfl, Or.inl rfl, Or.inl rfl, Or.inl rfl, Or.inl rfl, Or.inl rfl, trivial⟩ ?_
        exact hj319 _ _ _ hJ
  have hj268 : ∀ (x6 x7 x8 s0 : Int) (M : zM), jL_isArrowSo_J268 a2 Φ x6 x7 x8 s0 M → zG X M 268 [some (zr 70), some (zi a2), none, none, none, none, some (zi x6), some (zi x7), some (zi x8), none, none, none, none, none, none, none] [zi s0] := by
    intro x6 x7 x8 s0 M hJ
    unfold jL_isArrowSo_J268 at hJ
    refine zq_istore (lv' := [some (zr 70), some (zi a2), none, none, none, none, some (zi x6), some (zi x7), some (zi x8), none, some (zi s0), none, none, none, none, none]) C dL_isArrowSo_268 (Nat.le_of_ble_eq_true rfl) rfl ?_
    refine zq_aload_n (i := 0) C dL_isArrowSo_270 rfl rfl ?_
    refine zq_iload_n (i := 1) C dL_isArrowSo_271 rfl rfl ?_
    refine zq_iconst (x := 3) C dL_isArrowSo_272 rfl ik_3 ?_
    refine zq_callVi C [zi a2, zi 3] (wB_arrowOf l _ _ _  hJ) ck_L_23 iv_X7_arrowOf rfl sx70 rfl rfl rfl rfl rfl rfl dL_isArrowSo_273 (fun r14 M15 hJ => ?_)
    refine zq_iload C dL_isArrowSo_276 rfl ?_
    refine zq_icmp_ne (tgt := 385) C dL_isArrowSo_278 rfl (fun h36 => ?_) (fun h36 => ?_)
    · have hJ := hJ.1 h36
      refine zq_iconst (x := 0) C dL_isArrowSo_385 rfl ik_0 ?_
      exact zq_zret C rfl (Or.inl rfl) ⟨_, rfl, hJ⟩ dL_isArrowSo_386
    · have hJ := hJ.2 h36
      refine zq_aload_n (i := 0) C dL_isArrowSo_281 rfl rfl ?_
      refine zq_iload_n (i := 1) C dL_isArrowSo_282 rfl rfl ?_
      refine zq_iconst (x := 4) C dL_isArrowSo_283 rfl ik_4 ?_
      refine zq_callVi C [zi a2, zi 4] (wB_arrowOf l _ _ _  hJ) ck_L_23 iv_X7_arrowOf rfl sx70 rfl rfl rfl rfl rfl rfl dL_isArrowSo_284 (fun r16 M17 hJ => ?_)
      refine zq_iload C dL_isArrowSo_287 rfl ?_
      refine zq_icmp_ne (tgt := 385) C dL_isArrowSo_289 rfl (fun h35 => ?_) (fun h35 => ?_)
      · have hJ := hJ.1 h35
        refine zq_iconst (x := 0) C dL_isArrowSo_385 rfl ik_0 ?_
        exact zq_zret C rfl (Or.inl rfl) ⟨_, rfl, hJ⟩ dL_isArrowSo_386
      · have hJ := hJ.2 h35
        refine zq_iload C dL_isArrowSo_292 rfl ?_
        refine zq_iload C dL_isArrowSo_294 rfl ?_
        refine zq_icmp_ne (tgt := 385) C dL_isArrowSo_296 rfl (fun h34 => ?_) (fun h34 => ?_)
        · have hJ := hJ.1 h34
          refine zq_iconst (x := 0) C dL_isArrowSo_385 rfl ik_0 ?_
          exact zq_zret C rfl (Or.inl rfl) ⟨_, rfl, hJ⟩ dL_isArrowSo_386
        · have hJ := hJ.2 h34
          refine zq_iload C dL_isArrowSo_299 rfl ?_
          refine zq_if_ge (tgt := 308) C dL_isArrowSo_301 rfl (fun h33 => ?_) (fun h33 => ?_)
          · have hJ := hJ.1 h33
            refine zq_iconst (x := 0) C dL_isArrowSo_308 rfl ik_0 ?_
            refine zq_weak [some (zr 70), some (zi a2), none, none, none, none, some (zi x6), some (zi x7), none, none, some (zi s0), none, none, none, none, none] ⟨Or.inr rfl, Or.inr rfl, Or.inl rfl, Or.inl rfl, Or.inl rfl, Or.inl rfl, Or.inr rfl, Or.inr rfl, Or.inl rfl, Or.inl rfl, Or.inr rfl, Or.inl rfl, Or.inl rfl, Or.inl rfl, Or.inl rfl, Or.inl rfl, trivial⟩ ?_
            exact hj309 _ _ _ _ _ hJ
          · have hJ := hJ.2 h33
            refine zq_iconst (x := 1) C dL_isArrowSo_304 rfl ik_1 ?_
            refine zq_goto (tgt := 309) C dL_isArrowSo_305 rfl ?_
            refine zq_weak [some (zr 70), some (zi a2), none, none, none, none, some (zi x6), some (zi x7), none, none, some (zi s0), none, none, none, none, none] ⟨Or.inr rfl, Or.inr rfl, Or.inl rfl, Or.inl rfl, Or.inl rfl, Or.inl rfl, Or.inr rfl, Or.inr rfl, Or.inl rfl, Or.inl rfl, Or.inr rfl, Or.inl rfl, Or.inl rfl, Or.inl rfl, Or.inl rfl, Or.inl rfl, trivial⟩ ?_
            exact hj309 _ _ _ _ _ hJ
  have hl56 : ∀ (x4 x5 x6 : Int) (s : Int × Int × Int × Int × zM), zwh (fun K s => jL_isArrowSo_L56 a2 K Φ x4 x5 x6 (s.1) (s.2.1) (s.2.2.1) (s.2.2.2.1) (s.2.2.2.2)) s → zG X (s.2.2.2.2) 56 [some (zr 70), some (zi a2), none, none, some (zi x4), some (zi x5), some (zi x6), some (zi (s.1)), some (zi (s.2.1)), some (zi (s.2.2.1)), some (zi (s.2.2.2.1)), none, none, none, none, none] [] := by
    intro x4 x5 x6
    refine zwh_sound ?_
    intro K56 s hK56 hJ
    obtain ⟨x7, x8, x9, x10, M⟩ := s
    have hJ : jL_isArrowSo_L56 a2 K56 Φ x4 x5 x6 x7 x8 x9 x10 M := hJ
    show zG X M 56 [some (zr 70), some (zi a2), none, none, some (zi x4), some (zi x5), some (zi x6), some (zi x7), some (zi x8), some (zi x9), some (zi x10), none, none, none, none, none] []
    unfold jL_isArrowSo_L56 at hJ
    have hj223 : ∀ (x7 x9 x10 x11 x15 s0 : Int) (M : zM), jL_isArrowSo_J223 a2 K56 Φ x4 x5 x6 x7 x9 x10 x11 x15 s0 M → zG X M 223 [some (zr 70), some (zi a2), none, none, some (zi x4), some (zi x5), some (zi x6), some (zi x7), none, some (zi x9), some (zi x10), some (zi x11), none, none, none, some (zi x15)] [zi s0] := by
      intro x7 x9 x10 x11 x15 s0 M hJ
      unfold jL_isArrowSo_J223 at hJ
      refine zq_istore (lv' := [some (zr 70), some (zi a2), none, none, some (zi x4), some (zi x5), some (zi x6), some (zi x7), some (zi s0), some (zi x9), some (zi x10), some (zi x11), none, none, none, some (zi x15)]) C dL_isArrowSo_223 (Nat.le_of_ble_eq_true rfl) rfl ?_
      refine zq_iload C dL_isArrowSo_225 rfl ?_
      refine zq_if_ne (tgt := 242) C dL_isArrowSo_227 rfl (fun h56 => ?_) (fun h56 => ?_)
      · have hJ := hJ.1 h56
        refine zq_iload C dL_isArrowSo_242 rfl ?_
        refine zq_istore (lv' := [some (zr 70), some (zi a2), none, none, some (zi x4), some (zi x5), some (zi x6), some (zi x7), some (zi s0), some (zi x9), some (zi x10), some (zi x11), none, none, none, some (zi x15)]) C dL_isArrowSo_244 (Nat.le_of_ble_eq_true rfl) rfl ?_
        obtain ⟨hv10_52, hJ⟩ := hJ
        refine zq_iinc (y := x10 + 1) (lv' := [some (zr 70), some (zi a2), none, none, some (zi x4), some (zi x5), some (zi x6), some (zi x7), some (zi s0), some (zi x9), some (zi (x10 + 1)), some (zi x11), none, none, none, some (zi x15)]) C dL_isArrowSo_246 rfl rfl hv10_52 rfl ?_
        obtain ⟨v10_52, ev10_52⟩ : ∃ z, z = x10 + 1 := ⟨_, rfl⟩
        rw [← ev10_52]
        have hJ := hJ v10_52 ev10_52
        refine zq_goto (tgt := 56) C dL_isArrowSo_249 rfl ?_
        refine zq_weak [some (zr 70), some (zi a2), none, none, some (zi x4), some (zi x5), some (zi x6), some (zi x7), some (zi s0), some (zi x9), some (zi v10_52), none, none, none, none, none] ⟨Or.inr rfl, Or.inr rfl, Or.inl rfl, Or.inl rfl, Or.inr rfl, Or.inr rfl, Or.inr rfl, Or.inr rfl, Or.inr rfl, Or.inr rfl, Or.inr rfl, Or.inl rfl, Or.inl rfl, Or.inl rfl, Or.inl rfl, Or.inl rfl, trivial⟩ ?_
        exact hK56 _ hJ
      · have hJ := hJ.2 h56
        refine zq_iload C dL_isArrowSo_230 rfl ?_
        refine zq_iload C dL_isArrowSo_232 rfl ?_
        refine zq_icmp_ge (tgt := 242) C dL_isArrowSo_234 rfl (fun h55 => ?_) (fun h55 => ?_)
        · have hJ := hJ.1 h55
          refine zq_iload C dL_isArrowSo_242 rfl ?_
          refine zq_istore (lv' := [some (zr 70), some (zi a2), none, none, some (zi x4), some (zi x5), some (zi x6), some (zi x7), some (zi s0), some (zi x9), some (zi x10), some (zi x11), none, none, none, some (zi x15)]) C dL_isArrowSo_244 (Nat.le_of_ble_eq_true rfl) rfl ?_
          obtain ⟨hv10_53, hJ⟩ := hJ
          refine zq_iinc (y := x10 + 1) (lv' := [some (zr 70), some (zi a2), none, none, some (zi x4), some (zi x5), some (zi x6), some (zi x7), some (zi s0), some (zi x9), some (zi (x10 + 1)), some (zi x11), none, none, none, some (zi x15)]) C dL_isArrowSo_246 rfl rfl hv10_53 rfl ?_
          obtain ⟨v10_53, ev10_53⟩ : ∃ z, z = x10 + 1 := ⟨_, rfl⟩
          rw [← ev10_53]
          have hJ := hJ v10_53 ev10_53
          refine zq_goto (tgt := 56) C dL_isArrowSo_249 rfl ?_
          refine zq_weak [some (zr 70), some (zi a2), none, none, some (zi x4), some (zi x5), some (zi x6), some (zi x7), some (zi s0), some (zi x9), some (zi v10_53), none, none, none, none, none] ⟨Or.inr rfl, Or.inr rfl, Or.inl rfl, Or.inl rfl, Or.inr rfl, Or.inr rfl, Or.inr rfl, Or.inr rfl, Or.inr rfl, Or.inr rfl, Or.inr rfl, Or.inl rfl, Or.inl rfl, Or.inl rfl, Or.inl rfl, Or.inl rfl, trivial⟩ ?_
          exact hK56 _ hJ
        · have hJ := hJ.2 h55
          refine zq_iload C dL_isArrowSo_237 rfl ?_
          refine zq_goto (tgt := 244) C dL_isArrowSo_239 rfl ?_
          refine zq_istore (lv' := [some (zr 70), some (zi a2), none, none, some (zi x4), some (zi x5), some (zi x6), some (zi x7), some (zi s0), some (zi x15), some (zi x10), some (zi x11), none, none, none, some (zi x15)]) C dL_isArrowSo_244 (Nat.le_of_ble_eq_true rfl) rfl ?_
          obtain ⟨hv10_54, hJ⟩ := hJ
          refine zq_iinc (y := x10 + 1) (lv' := [some (zr 70), some (zi a2), none, none, some (zi x4), some (zi x5), some (zi x6), some (zi x7), some (zi s0), some (zi x15), some (zi (x10 + 1)), some (zi x11), none, none, none, some (zi x15)]) C dL_isArrowSo_246 rfl rfl hv10_54 rfl ?_
          obtain ⟨v10_54, ev10_54⟩ : ∃ z, z = x10 + 1 := ⟨_, rfl⟩
          rw [← ev10_54]
          have hJ := hJ v10_54 ev10_54
          refine zq_goto (tgt := 56) C dL_isArrowSo_249 rfl ?_
          refine zq_weak [some (zr 70), some (zi a2), none, none, some (zi x4), some (zi x5), some (zi x6), some (zi x7), some (zi s0), some (zi x15), some (zi v10_54), none, none, none, none, none] ⟨Or.inr rfl, Or.inr rfl, Or.inl rfl, Or.inl rfl, Or.inr rfl, Or.inr rfl, Or.inr rfl, Or.inr rfl, Or.inr rfl, Or.inr rfl, Or.inr rfl, Or.inl rfl, Or.inl rfl, Or.inl rfl, Or.inl rfl, Or.inl rfl, trivial⟩ ?_
          exact hK56 _ hJ
    have hj221 : ∀ (x7 x8 x9 x10 x11 x15 : Int) (M : zM), jL_isArrowSo_J221 a2 K56 Φ x4 x5 x6 x7 x8 x9 x10 x11 x15 M → zG X M 221 [some (zr 70), some (zi a2), none, none, some (zi x4), some (zi x5), some (zi x6), some (zi x7), some (zi x8), some (zi x9), some (zi x10), some (zi x11), none, none, none, some (zi x15)] [] := by
      intro x7 x8 x9 x10 x11 x15 M hJ
      unfold jL_isArrowSo_J221 at hJ
      refine zq_iload C dL_isArrowSo_221 rfl ?_
      refine zq_weak [some (zr 70), some (zi a2), none, none, some (zi x4), some (zi x5), some (zi x6), some (zi x7), none, some (zi x9), some (zi x10), some (zi x11), none, none, none, some (zi x15)] ⟨Or.inr rfl, Or.inr rfl, Or.inl rfl, Or.inl rfl, Or.inr rfl, Or.inr rfl, Or.inr rfl, Or.inr rfl, Or.inl rfl, Or.inr rfl, Or.inr rfl, Or.inr rfl, Or.inl rfl, Or.inl rfl, Or.inl rfl, Or.inr rfl, trivial⟩ ?_
      exact hj223 _ _ _ _ _ _ _ hJ
    have hj201 : ∀ (x8 x9 x10 x11 x15 s0 s1 : Int) (M : zM), jL_isArrowSo_J201 a2 K56 Φ x4 x5 x6 x8 x9 x10 x11 x15 s0 s1 M → zG X M 201 [some (zr 70), some (zi a2), none, none, some (zi x4), some (zi x5), some (zi x6), none, some (zi x8), some (zi x9), some (zi x10), some (zi x11), none, none, none, some (zi x15)] [zi s1, zi s0] := by
      intro x8 x9 x10 x11 x15 s0 s1 M hJ
      unfold jL_isArrowSo_J201 at hJ
      obtain ⟨h50, hJ⟩ := hJ
      refine zq_iadd C dL_isArrowSo_201 h50 ?_
      refine zq_istoreN C (fun v => [some (zr 70), some (zi a2), none, none, some (zi x4), some (zi x5), some (zi x6), some (zi v), some (zi x8), some (zi x9), some (zi x10), some (zi x11), none, none, none, some (zi x15)]) dL_isArrowSo_202 (Nat.le_of_ble_eq_true rfl) (fun _ => rfl) (fun v7_51 hv7_51 => ?_)
      have hJ := hJ v7_51 hv7_51
      refine zq_iload C dL_isArrowSo_204 rfl ?_
      refine zq_if_ne (tgt := 221) C dL_isArrowSo_206 rfl (fun h58 => ?_) (fun h58 => ?_)
      · have hJ := hJ.1 h58
        exact hj221 _ _ _ _ _ _ _ hJ
      · have hJ := hJ.2 h58
        refine zq_iload C dL_isArrowSo_209 rfl ?_
        refine zq_iload C dL_isArrowSo_211 rfl ?_
        refine zq_icmp_ge (tgt := 221) C dL_isArrowSo_213 rfl (fun h57 => ?_) (fun h57 => ?_)
        · have hJ := hJ.1 h57
          exact hj221 _ _ _ _ _ _ _ hJ
        · have hJ := hJ.2 h57
          refine zq_iload C dL_isArrowSo_216 rfl ?_
          refine zq_goto (tgt := 223) C dL_isArrowSo_218 rfl ?_
          refine zq_weak [some (zr 70), some (zi a2), none, none, some (zi x4), some (zi x5), some (zi x6), some (zi v7_51), none, some (zi x9), some (zi x10), some (zi x11), none, none, none, some (zi x15)] ⟨Or.inr rfl, Or.inr rfl, Or.inl rfl, Or.inl rfl, Or.inr rfl, Or.inr rfl, Or.inr rfl, Or.inr rfl, Or.inl rfl, Or.inr rfl, Or.inr rfl, Or.inr rfl, Or.inl rfl, Or.inl rfl, Or.inl rfl, Or.inr rfl, trivial⟩ ?_
          exact hj223 _ _ _ _ _ _ _ hJ
    have hj187 : ∀ (x7 x8 x9 x10 x11 s0 : Int) (M : zM), jL_isArrowSo_J187 a2 K56 Φ x4 x5 x6 x7 x8 x9 x10 x11 s0 M → zG X M 187 [some (zr 70), some (zi a2), none, none, some (zi x4), some (zi x5), some (zi x6), some (zi x7), some (zi x8), some (zi x9), some (zi x10), some (zi x11), none, none, none, none] [zi s0] := by
      intro x7 x8 x9 x10 x11 s0 M hJ
      unfold jL_isArrowSo_J187 at hJ
      refine zq_istore (lv' := [some (zr 70), some (zi a2), none, none, some (zi x4), some (zi x5), some (zi x6), some (zi x7), some (zi x8), some (zi x9), some (zi x10), some (zi x11), none, none, none, some (zi s0)]) C dL_isArrowSo_187 (Nat.le_of_ble_eq_true rfl) rfl ?_
      refine zq_iload C dL_isArrowSo_189 rfl ?_
      refine zq_iload C dL_isArrowSo_191 rfl ?_
      refine zq_if_ne (tgt := 200) C dL_isArrowSo_193 rfl (fun h59 => ?_) (fun h59 => ?_)
      · have hJ := hJ.1 h59
        refine zq_iconst (x := 0) C dL_isArrowSo_200 rfl ik_0 ?_
        refine zq_weak [some (zr 70), some (zi a2), none, none, some (zi x4), some (zi x5), some (zi x6), none, some (zi x8), some (zi x9), some (zi x10), some (zi x11), none, none, none, some (zi s0)] ⟨Or.inr rfl, Or.inr rfl, Or.inl rfl, Or.inl rfl, Or.inr rfl, Or.inr rfl, Or.inr rfl, Or.inl rfl, Or.inr rfl, Or.inr rfl, Or.inr rfl, Or.inr rfl, Or.inl rfl, Or.inl rfl, Or.inl rfl, Or.inr rfl, trivial⟩ ?_
        exact hj201 _ _ _ _ _ _ _ _ hJ
      · have hJ := hJ.2 h59
        refine zq_iconst (x := 1) C dL_isArrowSo_196 rfl ik_1 ?_
        refine zq_goto (tgt := 201) C dL_isArrowSo_197 rfl ?_
        refine zq_weak [some (zr 70), some (zi a2), none, none, some (zi x4), some (zi x5), some (zi x6), none, some (zi x8), some (zi x9), some (zi x10), some (zi x11), none, none, none, some (zi s0)] ⟨Or.inr rfl, Or.inr rfl, Or.inl rfl, Or.inl rfl, Or.inr rfl, Or.inr rfl, Or.inr rfl, Or.inl rfl, Or.inr rfl, Or.inr rfl, Or.inr rfl, Or.inr rfl, Or.inl rfl, Or.inl rfl, Or.inl rfl, Or.inr rfl, trivial⟩ ?_
        exact hj201 _ _ _ _ _ _ _ _ hJ
    have hj108 : ∀ (x7 x8 x9 x10 x11 s0 s1 : Int) (M : zM), jL_isArrowSo_J108 a2 K56 Φ x4 x5 x6 x7 x8 x9 x10 x11 s0 s1 M → zG X M 108 [some (zr 70), some (zi a2), none, none, some (zi x4), some (zi x5), some (zi x6), some (zi x7), some (zi x8), some (zi x9), some (zi x10), some (zi x11), none, none, none, none] [zi s1, zi s0] := by
      intro x7 x8 x9 x10 x11 s0 s1 M hJ
      unfold jL_isArrowSo_J108 at hJ
      refine zq_icmp_eq (tgt := 122) C dL_isArrowSo_108 rfl (fun h66 => ?_) (fun h66 => ?_)
      · have hJ := hJ.1 h66
        refine zq_iconst (x := 0) C dL_isArrowSo_122 rfl ik_0 ?_
        exact zq_zret C rfl (Or.inl rfl) ⟨_, rfl, hJ⟩ dL_isArrowSo_123
      · have hJ := hJ.2 h66
        refine zq_iload C dL_isArrowSo_111 rfl ?_
        refine zq_if_lt (tgt := 122) C dL_isArrowSo_113 rfl (fun h65 => ?_) (fun h65 => ?_)
        · have hJ := hJ.1 h65
          refine zq_iconst (x := 0) C dL_isArrowSo_122 rfl ik_0 ?_
          exact zq_zret C rfl (Or.inl rfl) ⟨_, rfl, hJ⟩ dL_isArrowSo_123
        · have hJ := hJ.2 h65
          refine zq_iload C dL_isArrowSo_116 rfl ?_
          refine zq_iconst (x := 4) C dL_isArrowSo_118 rfl ik_4 ?_
          refine zq_icmp_le (tgt := 124) C dL_isArrowSo_119 rfl (fun h64 => ?_) (fun h64 => ?_)
          · have hJ := hJ.1 h64
            refine zq_iload C dL_isArrowSo_124 rfl ?_
            refine zq_iload C dL_isArrowSo_126 rfl ?_
            obtain ⟨h41, hJ⟩ := hJ
            refine zq_isub C dL_isArrowSo_128 h41 ?_
            refine zq_istoreN C (fun v => [some (zr 70), some (zi a2), none, none, some (zi x4), some (zi x5), some (zi x6), some (zi x7), some (zi x8), some (zi x9), some (zi x10), some (zi x11), none, some (zi v), none, none]) dL_isArrowSo_129 (Nat.le_of_ble_eq_true rfl) (fun _ => rfl) (fun v13_42 hv13_42 => ?_)
            have hJ := hJ v13_42 hv13_42
            refine zq_iload C dL_isArrowSo_131 rfl ?_
            refine zq_iload C dL_isArrowSo_133 rfl ?_
            obtain ⟨h43, hJ⟩ := hJ
            refine zq_isub C dL_isArrowSo_135 h43 ?_
            refine zq_istoreN C (fun v => [some (zr 70), some (zi a2), none, none, some (zi x4), some (zi x5), some (zi x6), some (zi x7), some (zi x8), some (zi x9), some (zi x10), some (zi x11), none, some (zi v13_42), some (zi v), none]) dL_isArrowSo_136 (Nat.le_of_ble_eq_true rfl) (fun _ => rfl) (fun v14_44 hv14_44 => ?_)
            have hJ := hJ v14_44 hv14_44
            refine zq_aload_n (i := 0) C dL_isArrowSo_138 rfl rfl ?_
            refine zq_bipush (x := 15) C dL_isArrowSo_139 bi_15 ik_15 ?_
            refine zq_callVi C [zi 15] (wB_count l _ _  hJ) ck_L_8 iv_X7_count rfl sx70 rfl rfl rfl rfl rfl rfl dL_isArrowSo_141 (fun r45 M46 hJ => ?_)
            refine zq_if_ne (tgt := 152) C dL_isArrowSo_144 rfl (fun h63 => ?_) (fun h63 => ?_)
            · have hJ := hJ.1 h63
              refine zq_aload_n (i := 0) C dL_isArrowSo_152 rfl rfl ?_
              refine zq_bipush (x := 15) C dL_isArrowSo_153 bi_15 ik_15 ?_
              refine zq_callVi C [zi 15] (wB_count l _ _  hJ) ck_L_8 iv_X7_count rfl sx70 rfl rfl rfl rfl rfl rfl dL_isArrowSo_155 (fun r47 M48 hJ => ?_)
              refine zq_iconst (x := 1) C dL_isArrowSo_158 rfl ik_1 ?_
              refine zq_icmp_ne (tgt := 167) C dL_isArrowSo_159 rfl (fun h62 => ?_) (fun h62 => ?_)
              · have hJ := hJ.1 h62
                refine zq_iload C dL_isArrowSo_167 rfl ?_
                refine zq_iload C dL_isArrowSo_169 rfl ?_
                refine zq_icmp_ge (tgt := 182) C dL_isArrowSo_171 rfl (fun h61 => ?_) (fun h61 => ?_)
                · have hJ := hJ.1 h61
                  refine zq_iload C dL_isArrowSo_182 rfl ?_
                  refine zq_iload C dL_isArrowSo_184 rfl ?_
                  obtain ⟨h49, hJ⟩ := hJ
                  refine zq_isub C dL_isArrowSo_186 h49 ?_
                  refine zq_weak [some (zr 70), some (zi a2), none, none, some (zi x4), some (zi x5), some (zi x6), some (zi x7), some (zi x8), some (zi x9), some (zi x10), some (zi x11), none, none, none, none] ⟨Or.inr rfl, Or.inr rfl, Or.inl rfl, Or.inl rfl, Or.inr rfl, Or.inr rfl, Or.inr rfl, Or.inr rfl, Or.inr rfl, Or.inr rfl, Or.inr rfl, Or.inr rfl, Or.inl rfl, Or.inl rfl, Or.inl rfl, Or.inl rfl, trivial⟩ ?_
                  exact hj187 _ _ _ _ _ _ _ hJ
                · have hJ := hJ.2 h61
                  refine zq_iload C dL_isArrowSo_174 rfl ?_
                  refine zq_iload C dL_isArrowSo_176 rfl ?_
                  obtain ⟨h60, hJ⟩ := hJ
                  refine zq_isub C dL_isArrowSo_178 h60 ?_
                  refine zq_goto (tgt := 187) C dL_isArrowSo_179 rfl ?_
                  refine zq_weak [some (zr 70), some (zi a2), none, none, some (zi x4), some (zi x5), some (zi x6), some (zi x7), some (zi x8), some (zi x9), some (zi x10), some (zi x11), none, none, none, none] ⟨Or.inr rfl, Or.inr rfl, Or.inl rfl, Or.inl rfl, Or.inr rfl, Or.inr rfl, Or.inr rfl, Or.inr rfl, Or.inr rfl, Or.inr rfl, Or.inr rfl, Or.inr rfl, Or.inl rfl, Or.inl rfl, Or.inl rfl, Or.inl rfl, trivial⟩ ?_
                  exact hj187 _ _ _ _ _ _ _ hJ
              · have hJ := hJ.2 h62
                refine zq_iload C dL_isArrowSo_162 rfl ?_
                refine zq_goto (tgt := 187) C dL_isArrowSo_164 rfl ?_
                refine zq_weak [some (zr 70), some (zi a2), none, none, some (zi x4), some (zi x5), some (zi x6), some (zi x7), some (zi x8), some (zi x9), some (zi x10), some (zi x11), none, none, none, none] ⟨Or.inr rfl, Or.inr rfl, Or.inl rfl, Or.inl rfl, Or.inr rfl, Or.inr rfl, Or.inr rfl, Or.inr rfl, Or.inr rfl, Or.inr rfl, Or.inr rfl, Or.inr rfl, Or.inl rfl, Or.inl rfl, Or.inl rfl, Or.inl rfl, trivial⟩ ?_
                exact hj187 _ _ _ _ _ _ _ hJ
            · have hJ := hJ.2 h63
              refine zq_iload C dL_isArrowSo_147 rfl ?_
              refine zq_goto (tgt := 187) C dL_isArrowSo_149 rfl ?_
              refine zq_weak [some (zr 70), some (zi a2), none, none, some (zi x4), some (zi x5), some (zi x6), some (zi x7), some (zi x8), some (zi x9), some (zi x10), some (zi x11), none, none, none, none] ⟨Or.inr rfl, Or.inr rfl, Or.inl rfl, Or.inl rfl, Or.inr rfl, Or.inr rfl, Or.inr rfl, Or.inr rfl, Or.inr rfl, Or.inr rfl, Or.inr rfl, Or.inr rfl, Or.inl rfl, Or.inl rfl, Or.inl rfl, Or.inl rfl, trivial⟩ ?_
              exact hj187 _ _ _ _ _ _ _ hJ
          · have hJ := hJ.2 h64
            refine zq_iconst (x := 0) C dL_isArrowSo_122 rfl ik_0 ?_
            exact zq_zret C rfl (Or.inl rfl) ⟨_, rfl, hJ⟩ dL_isArrowSo_123
    have hj93 : ∀ (x7 x8 x9 x10 x11 s0 : Int) (M : zM), jL_isArrowSo_J93 a2 K56 Φ x4 x5 x6 x7 x8 x9 x10 x11 s0 M → zG X M 93 [some (zr 70), some (zi a2), none, none, some (zi x4), some (zi x5), some (zi x6), some (zi x7), some (zi x8), some (zi x9), some (zi x10), some (zi x11), none, none, none, none] [zi s0] := by
      intro x7 x8 x9 x10 x11 s0 M hJ
      unfold jL_isArrowSo_J93 at hJ
      refine zq_istore (lv' := [some (zr 70), some (zi a2), none, none, some (zi x4), some (zi x5), some (zi x6), some (zi x7), some (zi x8), some (zi x9), some (zi x10), some (zi x11), some (zi s0), none, none, none]) C dL_isArrowSo_93 (Nat.le_of_ble_eq_true rfl) rfl ?_
      refine zq_iload C dL_isArrowSo_95 rfl ?_
      refine zq_iload C dL_isArrowSo_97 rfl ?_
      refine zq_iconst (x := 1) C dL_isArrowSo_99 rfl ik_1 ?_
      refine zq_icmp_ne (tgt := 107) C dL_isArrowSo_100 rfl (fun h67 => ?_) (fun h67 => ?_)
      · have hJ := hJ.1 h67
        refine zq_iconst (x := 0) C dL_isArrowSo_107 rfl ik_0 ?_
        refine zq_weak [some (zr 70), some (zi a2), none, none, some (zi x4), some (zi x5), some (zi x6), some (zi x7), some (zi x8), some (zi x9), some (zi x10), some (zi x11), none, none, none, none] ⟨Or.inr rfl, Or.inr rfl, Or.inl rfl, Or.inl rfl, Or.inr rfl, Or.inr rfl, Or.inr rfl, Or.inr rfl, Or.inr rfl, Or.inr rfl, Or.inr rfl, Or.inr rfl, Or.inl rfl, Or.inl rfl, Or.inl rfl, Or.inl rfl, trivial⟩ ?_
        exact hj108 _ _ _ _ _ _ _ _ hJ
      · have hJ := hJ.2 h67
        refine zq_iconst (x := 1) C dL_isArrowSo_103 rfl ik_1 ?_
        refine zq_goto (tgt := 108) C dL_isArrowSo_104 rfl ?_
        refine zq_weak [some (zr 70), some (zi a2), none, none, some (zi x4), some (zi x5), some (zi x6), some (zi x7), some (zi x8), some (zi x9), some (zi x10), some (zi x11), none, none, none, none] ⟨Or.inr rfl, Or.inr rfl, Or.inl rfl, Or.inl rfl, Or.inr rfl, Or.inr rfl, Or.inr rfl, Or.inr rfl, Or.inr rfl, Or.inr rfl, Or.inr rfl, Or.inr rfl, Or.inl rfl, Or.inl rfl, Or.inl rfl, Or.inl rfl, trivial⟩ ?_
        exact hj108 _ _ _ _ _ _ _ _ hJ
    have hj92 : ∀ (x7 x8 x9 x10 x11 : Int) (M : zM), jL_isArrowSo_J92 a2 K56 Φ x4 x5 x6 x7 x8 x9 x10 x11 M → zG X M 92 [some (zr 70), some (zi a2), none, none, some (zi x4), some (zi x5), some (zi x6), some (zi x7), some (zi x8), some (zi x9), some (zi x10), some (zi x11), none, none, none, none] [] := by
      intro x7 x8 x9 x10 x11 M hJ
      unfold jL_isArrowSo_J92 at hJ
      refine zq_iconst (x := 0) C dL_isArrowSo_92 rfl ik_0 ?_
      exact hj93 _ _ _ _ _ _ _ hJ
    refine zq_iload C dL_isArrowSo_56 rfl ?_
    refine zq_iload C dL_isArrowSo_58 rfl ?_
    refine zq_iconst (x := 1) C dL_isArrowSo_60 rfl ik_1 ?_
    obtain ⟨h13, hJ⟩ := hJ
    refine zq_iadd C dL_isArrowSo_61 h13 ?_
    refine zq_icmp_gt (tgt := 252) C dL_isArrowSo_62 rfl (fun h70 => ?_) (fun h70 => ?_)
    · have hJ := hJ.1 h70
      refine zq_iload C dL_isArrowSo_252 rfl ?_
      refine zq_iload C dL_isArrowSo_254 rfl ?_
      refine zq_icmp_le (tgt := 267) C dL_isArrowSo_256 rfl (fun h38 => ?_) (fun h38 => ?_)
      · have hJ := hJ.1 h38
        refine zq_iconst (x := 0) C dL_isArrowSo_267 rfl ik_0 ?_
        refine zq_weak [some (zr 70), some (zi a2), none, none, none, none, some (zi x6), some (zi x7), some (zi x8), none, none, none, none, none, none, none] ⟨Or.inr rfl, Or.inr rfl, Or.inl rfl, Or.inl rfl, Or.inl rfl, Or.inl rfl, Or.inr rfl, Or.inr rfl, Or.inr rfl, Or.inl rfl, Or.inl rfl, Or.inl rfl, Or.inl rfl, Or.inl rfl, Or.inl rfl, Or.inl rfl, trivial⟩ ?_
        exact hj268 _ _ _ _ _ hJ
      · have hJ := hJ.2 h38
        refine zq_iload C dL_isArrowSo_259 rfl ?_
        refine zq_iload C dL_isArrowSo_261 rfl ?_
        obtain ⟨h37, hJ⟩ := hJ
        refine zq_isub C dL_isArrowSo_263 h37 ?_
        refine zq_goto (tgt := 268) C dL_isArrowSo_264 rfl ?_
        refine zq_weak [some (zr 70), some (zi a2), none, none, none, none, some (zi x6), some (zi x7), some (zi x8), none, none, none, none, none, none, none] ⟨Or.inr rfl, Or.inr rfl, Or.inl rfl, Or.inl rfl, Or.inl rfl, Or.inl rfl, Or.inr rfl, Or.inr rfl, Or.inr rfl, Or.inl rfl, Or.inl rfl, Or.inl rfl, Or.inl rfl, Or.inl rfl, Or.inl rfl, Or.inl rfl, trivial⟩ ?_
        exact hj268 _ _ _ _ _ hJ
    · have hJ := hJ.2 h70
      refine zq_aload_n (i := 0) C dL_isArrowSo_65 rfl rfl ?_
      refine zq_iload_n (i := 1) C dL_isArrowSo_66 rfl rfl ?_
      refine zq_iload C dL_isArrowSo_67 rfl ?_
      refine zq_callVi C [zi a2, zi x10] (wB_reason l _ _ _  hJ) ck_L_66 iv_X7_reason rfl sx70 rfl rfl rfl rfl rfl rfl dL_isArrowSo_69 (fun r39 M40 hJ => ?_)
      refine zq_istore (lv' := [some (zr 70), some (zi a2), none, none, some (zi x4), some (zi x5), some (zi x6), some (zi x7), some (zi x8), some (zi x9), some (zi x10), some (zi r39), none, none, none, none]) C dL_isArrowSo_72 (Nat.le_of_ble_eq_true rfl) rfl ?_
      refine zq_iload C dL_isArrowSo_74 rfl ?_
      refine zq_iload C dL_isArrowSo_76 rfl ?_
      refine zq_icmp_lt (tgt := 92) C dL_isArrowSo_78 rfl (fun h69 => ?_) (fun h69 => ?_)
      · have hJ := hJ.1 h69
        exact hj92 _ _ _ _ _ _ hJ
      · have hJ := hJ.2 h69
        refine zq_iload C dL_isArrowSo_81 rfl ?_
        refine zq_iload C dL_isArrowSo_83 rfl ?_
        refine zq_icmp_gt (tgt := 92) C dL_isArrowSo_85 rfl (fun h68 => ?_) (fun h68 => ?_)
        · have hJ := hJ.1 h68
          exact hj92 _ _ _ _ _ _ hJ
        · have hJ := hJ.2 h68
          refine zq_iconst (x := 1) C dL_isArrowSo_88 rfl ik_1 ?_
          refine zq_goto (tgt := 93) C dL_isArrowSo_89 rfl ?_
          exact hj93 _ _ _ _ _ _ _ hJ
  refine zq_aload_n (i := 0) C dL_isArrowSo_0 rfl rfl ?_
  refine zq_iload_n (i := 1) C dL_isArrowSo_1 rfl rfl ?_
  refine zq_iconst (x := 0) C dL_isArrowSo_2 rfl ik_0 ?_
  refine zq_callVi C [zi a2, zi 0] (wB_arrowOf l _ _ _  hJ) ck_L_23 iv_X7_arrowOf rfl sx70 rfl rfl rfl rfl rfl rfl dL_isArrowSo_3 (fun r1 M2 hJ => ?_)
  refine zq_istore_n (i := 2) (lv' := [some (zr 70), some (zi a2), some (zi r1), none, none, none, none, none, none, none, none, none, none, none, none, none]) C dL_isArrowSo_6 rfl (Nat.le_of_ble_eq_true rfl) rfl ?_
  refine zq_aload_n (i := 0) C dL_isArrowSo_7 rfl rfl ?_
  refine zq_iload_n (i := 1) C dL_isArrowSo_8 rfl rfl ?_
  refine zq_iconst (x := 1) C dL_isArrowSo_9 rfl ik_1 ?_
  refine zq_callVi C [zi a2, zi 1] (wB_arrowOf l _ _ _  hJ) ck_L_23 iv_X7_arrowOf rfl sx70 rfl rfl rfl rfl rfl rfl dL_isArrowSo_10 (fun r3 M4 hJ => ?_)
  refine zq_istore_n (i := 3) (lv' := [some (zr 70), some (zi a2), some (zi r1), some (zi r3), none, none, none, none, none, none, none, none, none, none, none, none]) C dL_isArrowSo_13 rfl (Nat.le_of_ble_eq_true rfl) rfl ?_
  refine zq_aload_n (i := 0) C dL_isArrowSo_14 rfl rfl ?_
  refine zq_iload_n (i := 2) C dL_isArrowSo_15 rfl rfl ?_
  refine zq_iconst (x := 3) C dL_isArrowSo_16 rfl ik_3 ?_
  refine zq_callVi C [zi r1, zi 3] (wB_barOf l _ _ _  hJ) ck_L_20 iv_X7_barOf rfl sx70 rfl rfl rfl rfl rfl rfl dL_isArrowSo_17 (fun r5 M6 hJ => ?_)
  refine zq_istore (lv' := [some (zr 70), some (zi a2), some (zi r1), some (zi r3), some (zi r5), none, none, none, none, none, none, none, none, none, none, none]) C dL_isArrowSo_20 (Nat.le_of_ble_eq_true rfl) rfl ?_
  refine zq_aload_n (i := 0) C dL_isArrowSo_22 rfl rfl ?_
  refine zq_iload_n (i := 3) C dL_isArrowSo_23 rfl rfl ?_
  refine zq_iconst (x := 1) C dL_isArrowSo_24 rfl ik_1 ?_
  refine zq_callVi C [zi r3, zi 1] (wB_barOf l _ _ _  hJ) ck_L_20 iv_X7_barOf rfl sx70 rfl rfl rfl rfl rfl rfl dL_isArrowSo_25 (fun r7 M8 hJ => ?_)
  refine zq_istore (lv' := [some (zr 70), some (zi a2), some (zi r1), some (zi r3), some (zi r5), some (zi r7), none, none, none, none, none, none, none, none, none, none]) C dL_isArrowSo_28 (Nat.le_of_ble_eq_true rfl) rfl ?_
  refine zq_aload_n (i := 0) C dL_isArrowSo_30 rfl rfl ?_
  refine zq_iload_n (i := 1) C dL_isArrowSo_31 rfl rfl ?_
  refine zq_iconst (x := 2) C dL_isArrowSo_32 rfl ik_2 ?_
  refine zq_callVi C [zi a2, zi 2] (wB_arrowOf l _ _ _  hJ) ck_L_23 iv_X7_arrowOf rfl sx70 rfl rfl rfl rfl rfl rfl dL_isArrowSo_33 (fun r9 M10 hJ => ?_)
  refine zq_istore (lv' := [some (zr 70), some (zi a2), some (zi r1), some (zi r3), some (zi r5), some (zi r7), some (zi r9), none, none, none, none, none, none, none, none, none]) C dL_isArrowSo_36 (Nat.le_of_ble_eq_true rfl) rfl ?_
  refine zq_iconst (x := 0) C dL_isArrowSo_38 rfl ik_0 ?_
  refine zq_istore (lv' := [some (zr 70), some (zi a2), some (zi r1), some (zi r3), some (zi r5), some (zi r7), some (zi r9), some (zi 0), none, none, none, none, none, none, none, none]) C dL_isArrowSo_39 (Nat.le_of_ble_eq_true rfl) rfl ?_
  refine zq_bipush (x := (-5)) C dL_isArrowSo_41 bi_m5 ik_m5 ?_
  refine zq_istore (lv' := [some (zr 70), some (zi a2), some (zi r1), some (zi r3), some (zi r5), some (zi r7), some (zi r9), some (zi 0), some (zi (-5)), none, none, none, none, none, none, none]) C dL_isArrowSo_43 (Nat.le_of_ble_eq_true rfl) rfl ?_
  refine zq_sipush (x := 9999) C dL_isArrowSo_45 si_9999 ik_9999 ?_
  refine zq_istore (lv' := [some (zr 70), some (zi a2), some (zi r1), some (zi r3), some (zi r5), some (zi r7), some (zi r9), some (zi 0), some (zi (-5)), some (zi 9999), none, none, none, none, none, none]) C dL_isArrowSo_48 (Nat.le_of_ble_eq_true rfl) rfl ?_
  refine zq_iload C dL_isArrowSo_50 rfl ?_
  refine zq_iconst (x := 1) C dL_isArrowSo_52 rfl ik_1 ?_
  obtain ⟨h11, hJ⟩ := hJ
  refine zq_isub C dL_isArrowSo_53 h11 ?_
  refine zq_istoreN C (fun v => [some (zr 70), some (zi a2), some (zi r1), some (zi r3), some (zi r5), some (zi r7), some (zi r9), some (zi 0), some (zi (-5)), some (zi 9999), some (zi v), none, none, none, none, none]) dL_isArrowSo_54 (Nat.le_of_ble_eq_true rfl) (fun _ => rfl) (fun v10_12 hv10_12 => ?_)
  have hJ := hJ v10_12 hv10_12
  refine zq_weak [some (zr 70), some (zi a2), none, none, some (zi r5), some (zi r7), some (zi r9), some (zi 0), some (zi (-5)), some (zi 9999), some (zi v10_12), none, none, none, none, none] ⟨Or.inr rfl, Or.inr rfl, Or.inl rfl, Or.inl rfl, Or.inr rfl, Or.inr rfl, Or.inr rfl, Or.inr rfl, Or.inr rfl, Or.inr rfl, Or.inr rfl, Or.inl rfl, Or.inl rfl, Or.inl rfl, Or.inl rfl, Or.inl rfl, trivial⟩ ?_
  exact hl56 _ _ _ _ hJ
set_option maxRecDepth 100000 in
set_option maxHeartbeats 4000000 in
theorem wL_isChartSo (l : Launch)  (M : zM) {Φ : Int → zM → Prop} (hJ : jL_isChartSo  M Φ) : zMet l yL_isChartSo cL_isChartSo 14 (some .boolean) 7 159 shX [zr 70] M (zI Φ) := by
  refine zq_enter [some (zr 70), none, none, none, none, none, none, none, none, none, none, none, none, none] (by decide) rfl (Nat.le_of_ble_eq_true rfl) rfl (fun X C => ?_)
  unfold jL_isChartSo at hJ
  have hl393 : ∀ (x1 x2 x3 x4 x5 x6 x7 x8 x9 : Int) (s : Int × Int × Int × Int × zM), zwh (fun K s => jL_isChartSo_L393  K Φ x1 x2 x3 x4 x5 x6 x7 x8 x9 (s.1) (s.2.1) (s.2.2.1) (s.2.2.2.1) (s.2.2.2.2)) s → zG X (s.2.2.2.2) 393 [some (zr 70), some (zi x1), some (zi x2), some (zi x3), some (zi x4), some (zi x5), some (zi x6), some (zi x7), some (zi x8), some (zi x9), some (zi (s.1)), some (zi (s.2.1)), some (zi (s.2.2.1)), some (zi (s.2.2.2.1))] [] := by
    intro x1 x2 x3 x4 x5 x6 x7 x8 x9
    refine zwh_sound ?_
    intro K393 s hK393 hJ
    obtain ⟨x10, x11, x12, x13, M⟩ := s
    have hJ : jL_isChartSo_L393  K393 Φ x1 x2 x3 x4 x5 x6 x7 x8 x9 x10 x11 x12 x13 M := hJ
    show zG X M 393 [some (zr 70), some (zi x1), some (zi x2), some (zi x3), some (zi x4), some (zi x5), some (zi x6), some (zi x7), some (zi x8), some (zi x9), some (zi x10), some (zi x11), some (zi x12), some (zi x13)] []
    unfold jL_isChartSo_L393 at hJ
    have hj444 : ∀ (x10 x12 x13 s0 s1 : Int) (M : zM), jL_isChartSo_J444 K393 Φ x1 x2 x3 x4 x5 x6 x7 x8 x9 x10 x12 x13 s0 s1 M → zG X M 444 [some (zr 70), some (zi x1), some (zi x2), some (zi x3), some (zi x4), some (zi x5), some (zi x6), some (zi x7), some (zi x8), some (zi x9), some (zi x10), none, some (zi x12), some (zi x13)] [zi s1, zi s0] := by
      intro x10 x12 x13 s0 s1 M hJ
      unfold jL_isChartSo_J444 at hJ
      obtain ⟨h48, hJ⟩ := hJ
      refine zq_iadd C dL_isChartSo_444 h48 ?_
      refine zq_istoreN C (fun v => [some (zr 70), some (zi x1), some (zi x2), some (zi x3), some (zi x4), some (zi x5), some (zi x6), some (zi x7), some (zi x8), some (zi x9), some (zi x10), some (zi v), some (zi x12), some (zi x13)]) dL_isChartSo_445 (Nat.le_of_ble_eq_true rfl) (fun _ => rfl) (fun v11_49 hv11_49 => ?_)
      have hJ := hJ v11_49 hv11_49
      refine zq_iload C dL_isChartSo_447 rfl ?_
      refine zq_aload_n (i := 0) C dL_isChartSo_449 rfl rfl ?_
      refine zq_iload C dL_isChartSo_450 rfl ?_
      refine zq_iconst (x := 3) C dL_isChartSo_452 rfl ik_3 ?_
      refine zq_callVi C [zi x13, zi 3] (wB_arrowOf l _ _ _  hJ) ck_L_23 iv_X7_arrowOf rfl sx70 rfl rfl rfl rfl rfl rfl dL_isChartSo_453 (fun r50 M51 hJ => ?_)
      refine zq_if_le (tgt := 463) C dL_isChartSo_456 rfl (fun h58 => ?_) (fun h58 => ?_)
      · have hJ := hJ.1 h58
        refine zq_iconst (x := 0) C dL_isChartSo_463 rfl ik_0 ?_
        obtain ⟨h52, hJ⟩ := hJ
        refine zq_iadd C dL_isChartSo_464 h52 ?_
        refine zq_istoreN C (fun v => [some (zr 70), some (zi x1), some (zi x2), some (zi x3), some (zi x4), some (zi x5), some (zi x6), some (zi x7), some (zi x8), some (zi x9), some (zi x10), some (zi v11_49), some (zi v), some (zi x13)]) dL_isChartSo_465 (Nat.le_of_ble_eq_true rfl) (fun _ => rfl) (fun v12_53 hv12_53 => ?_)
        have hJ := hJ v12_53 hv12_53
        obtain ⟨hv13_54, hJ⟩ := hJ
        refine zq_iinc (y := x13 + 1) (lv' := [some (zr 70), some (zi x1), some (zi x2), some (zi x3), some (zi x4), some (zi x5), some (zi x6), some (zi x7), some (zi x8), some (zi x9), some (zi x10), some (zi v11_49), some (zi v12_53), some (zi (x13 + 1))]) C dL_isChartSo_467 rfl rfl hv13_54 rfl ?_
        obtain ⟨v13_54, ev13_54⟩ : ∃ z, z = x13 + 1 := ⟨_, rfl⟩
        rw [← ev13_54]
        have hJ := hJ v13_54 ev13_54
        refine zq_goto (tgt := 393) C dL_isChartSo_470 rfl ?_
        exact hK393 _ hJ
      · have hJ := hJ.2 h58
        refine zq_iconst (x := 1) C dL_isChartSo_459 rfl ik_1 ?_
        refine zq_goto (tgt := 464) C dL_isChartSo_460 rfl ?_
        obtain ⟨h55, hJ⟩ := hJ
        refine zq_iadd C dL_isChartSo_464 h55 ?_
        refine zq_istoreN C (fun v => [some (zr 70), some (zi x1), some (zi x2), some (zi x3), some (zi x4), some (zi x5), some (zi x6), some (zi x7), some (zi x8), some (zi x9), some (zi x10), some (zi v11_49), some (zi v), some (zi x13)]) dL_isChartSo_465 (Nat.le_of_ble_eq_true rfl) (fun _ => rfl) (fun v12_56 hv12_56 => ?_)
        have hJ := hJ v12_56 hv12_56
        obtain ⟨hv13_57, hJ⟩ := hJ
        refine zq_iinc (y := x13 + 1) (lv' := [some (zr 70), some (zi x1), some (zi x2), some (zi x3), some (zi x4), some (zi x5), some (zi x6), some (zi x7), some (zi x8), some (zi x9), some (zi x10), some (zi v11_49), some (zi v12_56), some (zi (x13 + 1))]) C dL_isChartSo_467 rfl rfl hv13_57 rfl ?_
        obtain ⟨v13_57, ev13_57⟩ : ∃ z, z = x13 + 1 := ⟨_, rfl⟩
        rw [← ev13_57]
        have hJ := hJ v13_57 ev13_57
        refine zq_goto (tgt := 393) C dL_isChartSo_470 rfl ?_
        exact hK393 _ hJ
    refine zq_iload C dL_isChartSo_393 rfl ?_
    refine zq_aload_n (i := 0) C dL_isChartSo_395 rfl rfl ?_
    refine zq_bipush (x := 11) C dL_isChartSo_396 bi_11 ik_11 ?_
    refine zq_callVi C [zi 11] (wB_count l _ _  hJ) ck_L_8 iv_X7_count rfl sx70 rfl rfl rfl rfl rfl rfl dL_isChartSo_398 (fun r5 M6 hJ => ?_)
    refine zq_icmp_ge (tgt := 473) C dL_isChartSo_401 rfl (fun h61 => ?_) (fun h61 => ?_)
    · have hJ := hJ.1 h61
      refine zq_iload C dL_isChartSo_473 rfl ?_
      refine zq_if_eq (tgt := 592) C dL_isChartSo_475 rfl (fun h38 => ?_) (fun h38 => ?_)
      · have hJ := hJ.1 h38
        refine zq_iconst (x := 0) C dL_isChartSo_592 rfl ik_0 ?_
        exact zq_zret C rfl (Or.inl rfl) ⟨_, rfl, hJ⟩ dL_isChartSo_593
      · have hJ := hJ.2 h38
        refine zq_iload_n (i := 2) C dL_isChartSo_478 rfl rfl ?_
        refine zq_aload_n (i := 0) C dL_isChartSo_479 rfl rfl ?_
        refine zq_iconst (x := 0) C dL_isChartSo_480 rfl ik_0 ?_
        refine zq_callVi C [zi 0] (wB_count l _ _  hJ) ck_L_8 iv_X7_count rfl sx70 rfl rfl rfl rfl rfl rfl dL_isChartSo_481 (fun r7 M8 hJ => ?_)
        refine zq_icmp_ne (tgt := 592) C dL_isChartSo_484 rfl (fun h37 => ?_) (fun h37 => ?_)
        · have hJ := hJ.1 h37
          refine zq_iconst (x := 0) C dL_isChartSo_592 rfl ik_0 ?_
          exact zq_zret C rfl (Or.inl rfl) ⟨_, rfl, hJ⟩ dL_isChartSo_593
        · have hJ := hJ.2 h37
          refine zq_iload_n (i := 1) C dL_isChartSo_487 rfl rfl ?_
          refine zq_aload_n (i := 0) C dL_isChartSo_488 rfl rfl ?_
          refine zq_bipush (x := 6) C dL_isChartSo_489 bi_6 ik_6 ?_
          refine zq_callVi C [zi 6] (wB_count l _ _  hJ) ck_L_8 iv_X7_count rfl sx70 rfl rfl rfl rfl rfl rfl dL_isChartSo_491 (fun r9 M10 hJ => ?_)
          refine zq_icmp_ne (tgt := 592) C dL_isChartSo_494 rfl (fun h36 => ?_) (fun h36 => ?_)
          · have hJ := hJ.1 h36
            refine zq_iconst (x := 0) C dL_isChartSo_592 rfl ik_0 ?_
            exact zq_zret C rfl (Or.inl rfl) ⟨_, rfl, hJ⟩ dL_isChartSo_593
          · have hJ := hJ.2 h36
            refine zq_iload C dL_isChartSo_497 rfl ?_
            refine zq_iload_n (i := 1) C dL_isChartSo_499 rfl rfl ?_
            refine zq_icmp_ne (tgt := 592) C dL_isChartSo_500 rfl (fun h35 => ?_) (fun h35 => ?_)
            · have hJ := hJ.1 h35
              refine zq_iconst (x := 0) C dL_isChartSo_592 rfl ik_0 ?_
              exact zq_zret C rfl (Or.inl rfl) ⟨_, rfl, hJ⟩ dL_isChartSo_593
            · have hJ := hJ.2 h35
              refine zq_iload_n (i := 3) C dL_isChartSo_503 rfl rfl ?_
              refine zq_aload_n (i := 0) C dL_isChartSo_504 rfl rfl ?_
              refine zq_bipush (x := 9) C dL_isChartSo_505 bi_9 ik_9 ?_
              refine zq_callVi C [zi 9] (wB_count l _ _  hJ) ck_L_8 iv_X7_count rfl sx70 rfl rfl rfl rfl rfl rfl dL_isChartSo_507 (fun r11 M12 hJ => ?_)
              refine zq_icmp_ne (tgt := 592) C dL_isChartSo_510 rfl (fun h34 => ?_) (fun h34 => ?_)
              · have hJ := hJ.1 h34
                refine zq_iconst (x := 0) C dL_isChartSo_592 rfl ik_0 ?_
                exact zq_zret C rfl (Or.inl rfl) ⟨_, rfl, hJ⟩ dL_isChartSo_593
              · have hJ := hJ.2 h34
                refine zq_iload C dL_isChartSo_513 rfl ?_
                refine zq_iload_n (i := 1) C dL_isChartSo_515 rfl rfl ?_
                refine zq_icmp_ne (tgt := 592) C dL_isChartSo_516 rfl (fun h33 => ?_) (fun h33 => ?_)
                · have hJ := hJ.1 h33
                  refine zq_iconst (x := 0) C dL_isChartSo_592 rfl ik_0 ?_
                  exact zq_zret C rfl (Or.inl rfl) ⟨_, rfl, hJ⟩ dL_isChartSo_593
                · have hJ := hJ.2 h33
                  refine zq_iload C dL_isChartSo_519 rfl ?_
                  refine zq_aload_n (i := 0) C dL_isChartSo_521 rfl rfl ?_
                  refine zq_bipush (x := 8) C dL_isChartSo_522 bi_8 ik_8 ?_
                  refine zq_callVi C [zi 8] (wB_count l _ _  hJ) ck_L_8 iv_X7_count rfl sx70 rfl rfl rfl rfl rfl rfl dL_isChartSo_524 (fun r13 M14 hJ => ?_)
                  refine zq_icmp_ne (tgt := 592) C dL_isChartSo_527 rfl (fun h32 => ?_) (fun h32 => ?_)
                  · have hJ := hJ.1 h32
                    refine zq_iconst (x := 0) C dL_isChartSo_592 rfl ik_0 ?_
                    exact zq_zret C rfl (Or.inl rfl) ⟨_, rfl, hJ⟩ dL_isChartSo_593
                  · have hJ := hJ.2 h32
                    refine zq_iload C dL_isChartSo_530 rfl ?_
                    refine zq_iload_n (i := 2) C dL_isChartSo_532 rfl rfl ?_
                    refine zq_icmp_ne (tgt := 592) C dL_isChartSo_533 rfl (fun h31 => ?_) (fun h31 => ?_)
                    · have hJ := hJ.1 h31
                      refine zq_iconst (x := 0) C dL_isChartSo_592 rfl ik_0 ?_
                      exact zq_zret C rfl (Or.inl rfl) ⟨_, rfl, hJ⟩ dL_isChartSo_593
                    · have hJ := hJ.2 h31
                      refine zq_aload_n (i := 0) C dL_isChartSo_536 rfl rfl ?_
                      refine zq_iload C dL_isChartSo_537 rfl ?_
                      refine zq_iconst (x := 0) C dL_isChartSo_539 rfl ik_0 ?_
                      refine zq_callVi C [zi x9, zi 0] (wB_strip l _ _ _  hJ) ck_L_75 iv_X7_strip rfl sx70 rfl rfl rfl rfl rfl rfl dL_isChartSo_540 (fun r15 M16 hJ => ?_)
                      refine zq_bipush (x := (-5)) C dL_isChartSo_543 bi_m5 ik_m5 ?_
                      refine zq_icmp_ne (tgt := 592) C dL_isChartSo_545 rfl (fun h30 => ?_) (fun h30 => ?_)
                      · have hJ := hJ.1 h30
                        refine zq_iconst (x := 0) C dL_isChartSo_592 rfl ik_0 ?_
                        exact zq_zret C rfl (Or.inl rfl) ⟨_, rfl, hJ⟩ dL_isChartSo_593
                      · have hJ := hJ.2 h30
                        refine zq_iload C dL_isChartSo_548 rfl ?_
                        refine zq_iconst (x := 2) C dL_isChartSo_550 rfl ik_2 ?_
                        refine zq_aload_n (i := 0) C dL_isChartSo_551 rfl rfl ?_
                        refine zq_iconst (x := 5) C dL_isChartSo_552 rfl ik_5 ?_
                        refine zq_callVi C [zi 5] (wB_count l _ _  hJ) ck_L_8 iv_X7_count rfl sx70 rfl rfl rfl rfl rfl rfl dL_isChartSo_553 (fun r17 M18 hJ => ?_)
                        obtain ⟨h19, hJ⟩ := hJ
                        refine zq_imul C dL_isChartSo_556 h19 ?_
                        refine zq_icmp_ne (tgt := 592) C dL_isChartSo_557 rfl (fun h29 => ?_) (fun h29 => ?_)
                        · have hJ := hJ.1 h29
                          refine zq_iconst (x := 0) C dL_isChartSo_592 rfl ik_0 ?_
                          exact zq_zret C rfl (Or.inl rfl) ⟨_, rfl, hJ⟩ dL_isChartSo_593
                        · have hJ := hJ.2 h29
                          refine zq_iload C dL_isChartSo_560 rfl ?_
                          refine zq_aload_n (i := 0) C dL_isChartSo_562 rfl rfl ?_
                          refine zq_iconst (x := 3) C dL_isChartSo_563 rfl ik_3 ?_
                          refine zq_callVi C [zi 3] (wB_count l _ _  hJ) ck_L_8 iv_X7_count rfl sx70 rfl rfl rfl rfl rfl rfl dL_isChartSo_564 (fun r20 M21 hJ => ?_)
                          refine zq_icmp_ne (tgt := 592) C dL_isChartSo_567 rfl (fun h28 => ?_) (fun h28 => ?_)
                          · have hJ := hJ.1 h28
                            refine zq_iconst (x := 0) C dL_isChartSo_592 rfl ik_0 ?_
                            exact zq_zret C rfl (Or.inl rfl) ⟨_, rfl, hJ⟩ dL_isChartSo_593
                          · have hJ := hJ.2 h28
                            refine zq_iload C dL_isChartSo_570 rfl ?_
                            refine zq_aload_n (i := 0) C dL_isChartSo_572 rfl rfl ?_
                            refine zq_iconst (x := 4) C dL_isChartSo_573 rfl ik_4 ?_
                            refine zq_callVi C [zi 4] (wB_count l _ _  hJ) ck_L_8 iv_X7_count rfl sx70 rfl rfl rfl rfl rfl rfl dL_isChartSo_574 (fun r22 M23 hJ => ?_)
                            refine zq_icmp_ne (tgt := 592) C dL_isChartSo_577 rfl (fun h27 => ?_) (fun h27 => ?_)
                            · have hJ := hJ.1 h27
                              refine zq_iconst (x := 0) C dL_isChartSo_592 rfl ik_0 ?_
                              exact zq_zret C rfl (Or.inl rfl) ⟨_, rfl, hJ⟩ dL_isChartSo_593
                            · have hJ := hJ.2 h27
                              refine zq_aload_n (i := 0) C dL_isChartSo_580 rfl rfl ?_
                              refine zq_callVi C [] (wB_longest l _  hJ) ck_L_78 iv_X7_longest rfl sx70 rfl rfl rfl rfl rfl rfl dL_isChartSo_581 (fun r24 M25 hJ => ?_)
                              refine zq_iload_n (i := 1) C dL_isChartSo_584 rfl rfl ?_
                              refine zq_icmp_gt (tgt := 592) C dL_isChartSo_585 rfl (fun h26 => ?_) (fun h26 => ?_)
                              · have hJ := hJ.1 h26
                                refine zq_iconst (x := 0) C dL_isChartSo_592 rfl ik_0 ?_
                                exact zq_zret C rfl (Or.inl rfl) ⟨_, rfl, hJ⟩ dL_isChartSo_593
                              · have hJ := hJ.2 h26
                                refine zq_iconst (x := 1) C dL_isChartSo_588 rfl ik_1 ?_
                                refine zq_goto (tgt := 593) C dL_isChartSo_589 rfl ?_
                                exact zq_zret C rfl (Or.inr rfl) ⟨_, rfl, hJ⟩ dL_isChartSo_593
    · have hJ := hJ.2 h61
      refine zq_aload_n (i := 0) C dL_isChartSo_404 rfl rfl ?_
      refine zq_iload C dL_isChartSo_405 rfl ?_
      refine zq_iconst (x := 0) C dL_isChartSo_407 rfl ik_0 ?_
      refine zq_callVi C [zi x13, zi 0] (wB_arrowOf l _ _ _  hJ) ck_L_23 iv_X7_arrowOf rfl sx70 rfl rfl rfl rfl rfl rfl dL_isChartSo_408 (fun r39 M40 hJ => ?_)
      refine zq_if_lt (tgt := 467) C dL_isChartSo_411 rfl (fun h60 => ?_) (fun h60 => ?_)
      · have hJ := hJ.1 h60
        obtain ⟨hv13_41, hJ⟩ := hJ
        refine zq_iinc (y := x13 + 1) (lv' := [some (zr 70), some (zi x1), some (zi x2), some (zi x3), some (zi x4), some (zi x5), some (zi x6), some (zi x7), some (zi x8), some (zi x9), some (zi x10), some (zi x11), some (zi x12), some (zi (x13 + 1))]) C dL_isChartSo_467 rfl rfl hv13_41 rfl ?_
        obtain ⟨v13_41, ev13_41⟩ : ∃ z, z = x13 + 1 := ⟨_, rfl⟩
        rw [← ev13_41]
        have hJ := hJ v13_41 ev13_41
        refine zq_goto (tgt := 393) C dL_isChartSo_470 rfl ?_
        exact hK393 _ hJ
      · have hJ := hJ.2 h60
        refine zq_iload C dL_isChartSo_414 rfl ?_
        refine zq_aload_n (i := 0) C dL_isChartSo_416 rfl rfl ?_
        refine zq_iload C dL_isChartSo_417 rfl ?_
        refine zq_bipush (x := 6) C dL_isChartSo_419 bi_6 ik_6 ?_
        refine zq_callVi C [zi x13, zi 6] (wB_arrowOf l _ _ _  hJ) ck_L_23 iv_X7_arrowOf rfl sx70 rfl rfl rfl rfl rfl rfl dL_isChartSo_421 (fun r42 M43 hJ => ?_)
        obtain ⟨h44, hJ⟩ := hJ
        refine zq_iadd C dL_isChartSo_424 h44 ?_
        refine zq_istoreN C (fun v => [some (zr 70), some (zi x1), some (zi x2), some (zi x3), some (zi x4), some (zi x5), some (zi x6), some (zi x7), some (zi x8), some (zi x9), some (zi v), some (zi x11), some (zi x12), some (zi x13)]) dL_isChartSo_425 (Nat.le_of_ble_eq_true rfl) (fun _ => rfl) (fun v10_45 hv10_45 => ?_)
        have hJ := hJ v10_45 hv10_45
        refine zq_iload C dL_isChartSo_427 rfl ?_
        refine zq_aload_n (i := 0) C dL_isChartSo_429 rfl rfl ?_
        refine zq_iload C dL_isChartSo_430 rfl ?_
        refine zq_iconst (x := 2) C dL_isChartSo_432 rfl ik_2 ?_
        refine zq_callVi C [zi x13, zi 2] (wB_arrowOf l _ _ _  hJ) ck_L_23 iv_X7_arrowOf rfl sx70 rfl rfl rfl rfl rfl rfl dL_isChartSo_433 (fun r46 M47 hJ => ?_)
        refine zq_if_ge (tgt := 443) C dL_isChartSo_436 rfl (fun h59 => ?_) (fun h59 => ?_)
        · have hJ := hJ.1 h59
          refine zq_iconst (x := 0) C dL_isChartSo_443 rfl ik_0 ?_
          refine zq_weak [some (zr 70), some (zi x1), some (zi x2), some (zi x3), some (zi x4), some (zi x5), some (zi x6), some (zi x7), some (zi x8), some (zi x9), some (zi v10_45), none, some (zi x12), some (zi x13)] ⟨Or.inr rfl, Or.inr rfl, Or.inr rfl, Or.inr rfl, Or.inr rfl, Or.inr rfl, Or.inr rfl, Or.inr rfl, Or.inr rfl, Or.inr rfl, Or.inr rfl, Or.inl rfl, Or.inr rfl, Or.inr rfl, trivial⟩ ?_
          exact hj444 _ _ _ _ _ _ hJ
        · have hJ := hJ.2 h59
          refine zq_iconst (x := 1) C dL_isChartSo_439 rfl ik_1 ?_
          refine zq_goto (tgt := 444) C dL_isChartSo_440 rfl ?_
          refine zq_weak [some (zr 70), some (zi x1), some (zi x2), some (zi x3), some (zi x4), some (zi x5), some (zi x6), some (zi x7), some (zi x8), some (zi x9), some (zi v10_45), none, some (zi x12), some (zi x13)] ⟨Or.inr rfl, Or.inr rfl, Or.inr rfl, Or.inr rfl, Or.inr rfl, Or.inr rfl, Or.inr rfl, Or.inr rfl, Or.inr rfl, Or.inr rfl, Or.inr rfl, Or.inl rfl, Or.inr rfl, Or.inr rfl, trivial⟩ ?_
          exact hj444 _ _ _ _ _ _ hJ
  have hl267 : ∀ (x1 x2 x3 x4 x9 : Int) (s : Int × Int × Int × Int × Int × zM), zwh (fun K s => jL_isChartSo_L267  K Φ x1 x2 x3 x4 x9 (s.1) (s.2.1) (s.2.2.1) (s.2.2.2.1) (s.2.2.2.2.1) (s.2.2.2.2.2)) s → zG X (s.2.2.2.2.2) 267 [some (zr 70), some (zi x1), some (zi x2), some (zi x3), some (zi x4), some (zi (s.1)), some (zi (s.2.1)), some (zi (s.2.2.1)), some (zi (s.2.2.2.1)), some (zi x9), some (zi (s.2.2.2.2.1)), none, none, none] [] := by
    intro x1 x2 x3 x4 x9
    refine zwh_sound ?_
    intro K267 s hK267 hJ
    obtain ⟨x5, x6, x7, x8, x10, M⟩ := s
    have hJ : jL_isChartSo_L267  K267 Φ x1 x2 x3 x4 x9 x5 x6 x7 x8 x10 M := hJ
    show zG X M 267 [some (zr 70), some (zi x1), some (zi x2), some (zi x3), some (zi x4), some (zi x5), some (zi x6), some (zi x7), some (zi x8), some (zi x9), some (zi x10), none, none, none] []
    unfold jL_isChartSo_L267 at hJ
    have hj337 : ∀ (x6 x7 x8 x10 s0 : Int) (M : zM), jL_isChartSo_J337 K267 Φ x1 x2 x3 x4 x6 x7 x8 x9 x10 s0 M → zG X M 337 [some (zr 70), some (zi x1), some (zi x2), some (zi x3), some (zi x4), none, some (zi x6), some (zi x7), some (zi x8), some (zi x9), some (zi x10), none, none, none] [zi s0] := by
      intro x6 x7 x8 x10 s0 M hJ
      unfold jL_isChartSo_J337 at hJ
      refine zq_istore (lv' := [some (zr 70), some (zi x1), some (zi x2), some (zi x3), some (zi x4), some (zi s0), some (zi x6), some (zi x7), some (zi x8), some (zi x9), some (zi x10), none, none, none]) C dL_isChartSo_337 (Nat.le_of_ble_eq_true rfl) rfl ?_
      refine zq_iload C dL_isChartSo_339 rfl ?_
      refine zq_aload_n (i := 0) C dL_isChartSo_341 rfl rfl ?_
      refine zq_iload C dL_isChartSo_342 rfl ?_
      refine zq_iconst (x := 1) C dL_isChartSo_344 rfl ik_1 ?_
      refine zq_callVi C [zi x10, zi 1] (wB_strip l _ _ _  hJ) ck_L_75 iv_X7_strip rfl sx70 rfl rfl rfl rfl rfl rfl dL_isChartSo_345 (fun r64 M65 hJ => ?_)
      obtain ⟨h66, hJ⟩ := hJ
      refine zq_iadd C dL_isChartSo_348 h66 ?_
      refine zq_istoreN C (fun v => [some (zr 70), some (zi x1), some (zi x2), some (zi x3), some (zi x4), some (zi s0), some (zi v), some (zi x7), some (zi x8), some (zi x9), some (zi x10), none, none, none]) dL_isChartSo_349 (Nat.le_of_ble_eq_true rfl) (fun _ => rfl) (fun v6_67 hv6_67 => ?_)
      have hJ := hJ v6_67 hv6_67
      refine zq_iload C dL_isChartSo_351 rfl ?_
      refine zq_aload_n (i := 0) C dL_isChartSo_353 rfl rfl ?_
      refine zq_iload C dL_isChartSo_354 rfl ?_
      refine zq_iconst (x := 2) C dL_isChartSo_356 rfl ik_2 ?_
      refine zq_callVi C [zi x10, zi 2] (wB_strip l _ _ _  hJ) ck_L_75 iv_X7_strip rfl sx70 rfl rfl rfl rfl rfl rfl dL_isChartSo_357 (fun r68 M69 hJ => ?_)
      obtain ⟨h70, hJ⟩ := hJ
      refine zq_iadd C dL_isChartSo_360 h70 ?_
      refine zq_istoreN C (fun v => [some (zr 70), some (zi x1), some (zi x2), some (zi x3), some (zi x4), some (zi s0), some (zi v6_67), some (zi v), some (zi x8), some (zi x9), some (zi x10), none, none, none]) dL_isChartSo_361 (Nat.le_of_ble_eq_true rfl) (fun _ => rfl) (fun v7_71 hv7_71 => ?_)
      have hJ := hJ v7_71 hv7_71
      refine zq_iload C dL_isChartSo_363 rfl ?_
      refine zq_aload_n (i := 0) C dL_isChartSo_365 rfl rfl ?_
      refine zq_iload C dL_isChartSo_366 rfl ?_
      refine zq_iconst (x := 4) C dL_isChartSo_368 rfl ik_4 ?_
      refine zq_callVi C [zi x10, zi 4] (wB_strip l _ _ _  hJ) ck_L_75 iv_X7_strip rfl sx70 rfl rfl rfl rfl rfl rfl dL_isChartSo_369 (fun r72 M73 hJ => ?_)
      obtain ⟨h74, hJ⟩ := hJ
      refine zq_iadd C dL_isChartSo_372 h74 ?_
      refine zq_istoreN C (fun v => [some (zr 70), some (zi x1), some (zi x2), some (zi x3), some (zi x4), some (zi s0), some (zi v6_67), some (zi v7_71), some (zi v), some (zi x9), some (zi x10), none, none, none]) dL_isChartSo_373 (Nat.le_of_ble_eq_true rfl) (fun _ => rfl) (fun v8_75 hv8_75 => ?_)
      have hJ := hJ v8_75 hv8_75
      obtain ⟨hv10_76, hJ⟩ := hJ
      refine zq_iinc (y := x10 + 1) (lv' := [some (zr 70), some (zi x1), some (zi x2), some (zi x3), some (zi x4), some (zi s0), some (zi v6_67), some (zi v7_71), some (zi v8_75), some (zi x9), some (zi (x10 + 1)), none, none, none]) C dL_isChartSo_375 rfl rfl hv10_76 rfl ?_
      obtain ⟨v10_76, ev10_76⟩ : ∃ z, z = x10 + 1 := ⟨_, rfl⟩
      rw [← ev10_76]
      have hJ := hJ v10_76 ev10_76
      refine zq_goto (tgt := 267) C dL_isChartSo_378 rfl ?_
      exact hK267 _ hJ
    have hj336 : ∀ (x6 x7 x8 x10 : Int) (M : zM), jL_isChartSo_J336 K267 Φ x1 x2 x3 x4 x6 x7 x8 x9 x10 M → zG X M 336 [some (zr 70), some (zi x1), some (zi x2), some (zi x3), some (zi x4), none, some (zi x6), some (zi x7), some (zi x8), some (zi x9), some (zi x10), none, none, none] [] := by
      intro x6 x7 x8 x10 M hJ
      unfold jL_isChartSo_J336 at hJ
      refine zq_iconst (x := 0) C dL_isChartSo_336 rfl ik_0 ?_
      exact hj337 _ _ _ _ _ _ hJ
    have hj332 : ∀ (x6 x7 x8 x10 : Int) (M : zM), jL_isChartSo_J332 K267 Φ x1 x2 x3 x4 x6 x7 x8 x9 x10 M → zG X M 332 [some (zr 70), some (zi x1), some (zi x2), some (zi x3), some (zi x4), none, some (zi x6), some (zi x7), some (zi x8), some (zi x9), some (zi x10), none, none, none] [] := by
      intro x6 x7 x8 x10 M hJ
      unfold jL_isChartSo_J332 at hJ
      refine zq_iconst (x := 1) C dL_isChartSo_332 rfl ik_1 ?_
      refine zq_goto (tgt := 337) C dL_isChartSo_333 rfl ?_
      exact hj337 _ _ _ _ _ _ hJ
    refine zq_iload C dL_isChartSo_267 rfl ?_
    refine zq_iload C dL_isChartSo_269 rfl ?_
    refine zq_icmp_ge (tgt := 381) C dL_isChartSo_271 rfl (fun h90 => ?_) (fun h90 => ?_)
    · have hJ := hJ.1 h90
      refine zq_iconst (x := 0) C dL_isChartSo_381 rfl ik_0 ?_
      refine zq_istore (lv' := [some (zr 70), some (zi x1), some (zi x2), some (zi x3), some (zi x4), some (zi x5), some (zi x6), some (zi x7), some (zi x8), some (zi x9), some (zi 0), none, none, none]) C dL_isChartSo_382 (Nat.le_of_ble_eq_true rfl) rfl ?_
      refine zq_iconst (x := 0) C dL_isChartSo_384 rfl ik_0 ?_
      refine zq_istore (lv' := [some (zr 70), some (zi x1), some (zi x2), some (zi x3), some (zi x4), some (zi x5), some (zi x6), some (zi x7), some (zi x8), some (zi x9), some (zi 0), some (zi 0), none, none]) C dL_isChartSo_385 (Nat.le_of_ble_eq_true rfl) rfl ?_
      refine zq_iconst (x := 0) C dL_isChartSo_387 rfl ik_0 ?_
      refine zq_istore (lv' := [some (zr 70), some (zi x1), some (zi x2), some (zi x3), some (zi x4), some (zi x5), some (zi x6), some (zi x7), some (zi x8), some (zi x9), some (zi 0), some (zi 0), some (zi 0), none]) C dL_isChartSo_388 (Nat.le_of_ble_eq_true rfl) rfl ?_
      refine zq_iconst (x := 0) C dL_isChartSo_390 rfl ik_0 ?_
      refine zq_istore (lv' := [some (zr 70), some (zi x1), some (zi x2), some (zi x3), some (zi x4), some (zi x5), some (zi x6), some (zi x7), some (zi x8), some (zi x9), some (zi 0), some (zi 0), some (zi 0), some (zi 0)]) C dL_isChartSo_391 (Nat.le_of_ble_eq_true rfl) rfl ?_
      exact hl393 _ _ _ _ _ _ _ _ _ _ hJ
    · have hJ := hJ.2 h90
      refine zq_aload_n (i := 0) C dL_isChartSo_274 rfl rfl ?_
      refine zq_bipush (x := 16) C dL_isChartSo_275 bi_16 ik_16 ?_
      refine zq_callVi C [zi 16] (wB_count l _ _  hJ) ck_L_8 iv_X7_count rfl sx70 rfl rfl rfl rfl rfl rfl dL_isChartSo_277 (fun r62 M63 hJ => ?_)
      refine zq_istore (lv' := [some (zr 70), some (zi x1), some (zi x2), some (zi x3), some (zi x4), some (zi x5), some (zi x6), some (zi x7), some (zi x8), some (zi x9), some (zi x10), some (zi r62), none, none]) C dL_isChartSo_280 (Nat.le_of_ble_eq_true rfl) rfl ?_
      refine zq_iload C dL_isChartSo_282 rfl ?_
      refine zq_if_eq (tgt := 336) C dL_isChartSo_284 rfl (fun h89 => ?_) (fun h89 => ?_)
      · have hJ := hJ.1 h89
        refine zq_weak [some (zr 70), some (zi x1), some (zi x2), some (zi x3), some (zi x4), none, some (zi x6), some (zi x7), some (zi x8), some (zi x9), some (zi x10), none, none, none] ⟨Or.inr rfl, Or.inr rfl, Or.inr rfl, Or.inr rfl, Or.inr rfl, Or.inl rfl, Or.inr rfl, Or.inr rfl, Or.inr rfl, Or.inr rfl, Or.inr rfl, Or.inl rfl, Or.inl rfl, Or.inl rfl, trivial⟩ ?_
        exact hj336 _ _ _ _ _ hJ
      · have hJ := hJ.2 h89
        refine zq_aload_n (i := 0) C dL_isChartSo_287 rfl rfl ?_
        refine zq_iload C dL_isChartSo_288 rfl ?_
        refine zq_iconst (x := 0) C dL_isChartSo_290 rfl ik_0 ?_
        refine zq_callVi C [zi x10, zi 0] (wB_strip l _ _ _  hJ) ck_L_75 iv_X7_strip rfl sx70 rfl rfl rfl rfl rfl rfl dL_isChartSo_291 (fun r77 M78 hJ => ?_)
        refine zq_iload C dL_isChartSo_294 rfl ?_
        refine zq_icmp_ne (tgt := 336) C dL_isChartSo_296 rfl (fun h88 => ?_) (fun h88 => ?_)
        · have hJ := hJ.1 h88
          refine zq_weak [some (zr 70), some (zi x1), some (zi x2), some (zi x3), some (zi x4), none, some (zi x6), some (zi x7), some (zi x8), some (zi x9), some (zi x10), none, none, none] ⟨Or.inr rfl, Or.inr rfl, Or.inr rfl, Or.inr rfl, Or.inr rfl, Or.inl rfl, Or.inr rfl, Or.inr rfl, Or.inr rfl, Or.inr rfl, Or.inr rfl, Or.inl rfl, Or.inl rfl, Or.inl rfl, trivial⟩ ?_
          exact hj336 _ _ _ _ _ hJ
        · have hJ := hJ.2 h88
          refine zq_aload_n (i := 0) C dL_isChartSo_299 rfl rfl ?_
          refine zq_iload C dL_isChartSo_300 rfl ?_
          refine zq_iconst (x := 1) C dL_isChartSo_302 rfl ik_1 ?_
          refine zq_callVi C [zi x10, zi 1] (wB_strip l _ _ _  hJ) ck_L_75 iv_X7_strip rfl sx70 rfl rfl rfl rfl rfl rfl dL_isChartSo_303 (fun r79 M80 hJ => ?_)
          refine zq_if_le (tgt := 336) C dL_isChartSo_306 rfl (fun h87 => ?_) (fun h87 => ?_)
          · have hJ := hJ.1 h87
            refine zq_weak [some (zr 70), some (zi x1), some (zi x2), some (zi x3), some (zi x4), none, some (zi x6), some (zi x7), some (zi x8), some (zi x9), some (zi x10), none, none, none] ⟨Or.inr rfl, Or.inr rfl, Or.inr rfl, Or.inr rfl, Or.inr rfl, Or.inl rfl, Or.inr rfl, Or.inr rfl, Or.inr rfl, Or.inr rfl, Or.inr rfl, Or.inl rfl, Or.inl rfl, Or.inl rfl, trivial⟩ ?_
            exact hj336 _ _ _ _ _ hJ
          · have hJ := hJ.2 h87
            refine zq_aload_n (i := 0) C dL_isChartSo_309 rfl rfl ?_
            refine zq_iload C dL_isChartSo_310 rfl ?_
            refine zq_iconst (x := 2) C dL_isChartSo_312 rfl ik_2 ?_
            refine zq_callVi C [zi x10, zi 2] (wB_strip l _ _ _  hJ) ck_L_75 iv_X7_strip rfl sx70 rfl rfl rfl rfl rfl rfl dL_isChartSo_313 (fun r81 M82 hJ => ?_)
            refine zq_iload C dL_isChartSo_316 rfl ?_
            refine zq_icmp_le (tgt := 332) C dL_isChartSo_318 rfl (fun h86 => ?_) (fun h86 => ?_)
            · have hJ := hJ.1 h86
              refine zq_weak [some (zr 70), some (zi x1), some (zi x2), some (zi x3), some (zi x4), none, some (zi x6), some (zi x7), some (zi x8), some (zi x9), some (zi x10), none, none, none] ⟨Or.inr rfl, Or.inr rfl, Or.inr rfl, Or.inr rfl, Or.inr rfl, Or.inl rfl, Or.inr rfl, Or.inr rfl, Or.inr rfl, Or.inr rfl, Or.inr rfl, Or.inl rfl, Or.inl rfl, Or.inl rfl, trivial⟩ ?_
              exact hj332 _ _ _ _ _ hJ
            · have hJ := hJ.2 h86
              refine zq_aload_n (i := 0) C dL_isChartSo_321 rfl rfl ?_
              refine zq_iload C dL_isChartSo_322 rfl ?_
              refine zq_iconst (x := 1) C dL_isChartSo_324 rfl ik_1 ?_
              refine zq_callVi C [zi x10, zi 1] (wB_strip l _ _ _  hJ) ck_L_75 iv_X7_strip rfl sx70 rfl rfl rfl rfl rfl rfl dL_isChartSo_325 (fun r83 M84 hJ => ?_)
              refine zq_iconst (x := 1) C dL_isChartSo_328 rfl ik_1 ?_
              refine zq_icmp_ne (tgt := 336) C dL_isChartSo_329 rfl (fun h85 => ?_) (fun h85 => ?_)
              · have hJ := hJ.1 h85
                refine zq_weak [some (zr 70), some (zi x1), some (zi x2), some (zi x3), some (zi x4), none, some (zi x6), some (zi x7), some (zi x8), some (zi x9), some (zi x10), none, none, none] ⟨Or.inr rfl, Or.inr rfl, Or.inr rfl, Or.inr rfl, Or.inr rfl, Or.inl rfl, Or.inr rfl, Or.inr rfl, Or.inr rfl, Or.inr rfl, Or.inr rfl, Or.inl rfl, Or.inl rfl, Or.inl rfl, trivial⟩ ?_
                exact hj336 _ _ _ _ _ hJ
              · have hJ := hJ.2 h85
                refine zq_weak [some (zr 70), some (zi x1), some (zi x2), some (zi x3), some (zi x4), none, some (zi x6), some (zi x7), some (zi x8), some (zi x9), some (zi x10), none, none, none] ⟨Or.inr rfl, Or.inr rfl, Or.inr rfl, Or.inr rfl, Or.inr rfl, Or.inl rfl, Or.inr rfl, Or.inr rfl, Or.inr rfl, Or.inr rfl, Or.inr rfl, Or.inl rfl, Or.inl rfl, Or.inl rfl, trivial⟩ ?_
                exact hj332 _ _ _ _ _ hJ
  have hl15 : ∀ (s : Int × Int × Int × Int × Int × Int × zM), zwh (fun K s => jL_isChartSo_L15  K Φ (s.1) (s.2.1) (s.2.2.1) (s.2.2.2.1) (s.2.2.2.2.1) (s.2.2.2.2.2.1) (s.2.2.2.2.2.2)) s → zG X (s.2.2.2.2.2.2) 15 [some (zr 70), some (zi (s.1)), some (zi (s.2.1)), some (zi (s.2.2.1)), some (zi (s.2.2.2.1)), some (zi (s.2.2.2.2.1)), some (zi (s.2.2.2.2.2.1)), none, none, none, none, none, none, none] [] := by
    refine zwh_sound ?_
    intro K15 s hK15 hJ
    obtain ⟨x1, x2, x3, x4, x5, x6, M⟩ := s
    have hJ : jL_isChartSo_L15  K15 Φ x1 x2 x3 x4 x5 x6 M := hJ
    show zG X M 15 [some (zr 70), some (zi x1), some (zi x2), some (zi x3), some (zi x4), some (zi x5), some (zi x6), none, none, none, none, none, none, none] []
    unfold jL_isChartSo_L15 at hJ
    have hj132 : ∀ (x1 x2 x3 x5 x6 x7 x8 s0 : Int) (M : zM), jL_isChartSo_J132 K15 Φ x1 x2 x3 x5 x6 x7 x8 s0 M → zG X M 132 [some (zr 70), some (zi x1), some (zi x2), some (zi x3), none, some (zi x5), some (zi x6), some (zi x7), some (zi x8), none, none, none, none, none] [zi s0] := by
      intro x1 x2 x3 x5 x6 x7 x8 s0 M hJ
      unfold jL_isChartSo_J132 at hJ
      refine zq_istore (lv' := [some (zr 70), some (zi x1), some (zi x2), some (zi x3), some (zi s0), some (zi x5), some (zi x6), some (zi x7), some (zi x8), none, none, none, none, none]) C dL_isChartSo_132 (Nat.le_of_ble_eq_true rfl) rfl ?_
      refine zq_iload C dL_isChartSo_134 rfl ?_
      refine zq_if_eq (tgt := 238) C dL_isChartSo_136 rfl (fun h143 => ?_) (fun h143 => ?_)
      · have hJ := hJ.1 h143
        refine zq_iconst (x := 0) C dL_isChartSo_238 rfl ik_0 ?_
        refine zq_istore (lv' := [some (zr 70), some (zi x1), some (zi x2), some (zi x3), some (zi s0), some (zi 0), some (zi x6), some (zi x7), some (zi x8), none, none, none, none, none]) C dL_isChartSo_239 (Nat.le_of_ble_eq_true rfl) rfl ?_
        obtain ⟨hv6_108, hJ⟩ := hJ
        refine zq_iinc (y := x6 + 1) (lv' := [some (zr 70), some (zi x1), some (zi x2), some (zi x3), some (zi s0), some (zi 0), some (zi (x6 + 1)), some (zi x7), some (zi x8), none, none, none, none, none]) C dL_isChartSo_241 rfl rfl hv6_108 rfl ?_
        obtain ⟨v6_108, ev6_108⟩ : ∃ z, z = x6 + 1 := ⟨_, rfl⟩
        rw [← ev6_108]
        have hJ := hJ v6_108 ev6_108
        refine zq_goto (tgt := 15) C dL_isChartSo_244 rfl ?_
        refine zq_weak [some (zr 70), some (zi x1), some (zi x2), some (zi x3), some (zi s0), some (zi 0), some (zi v6_108), none, none, none, none, none, none, none] ⟨Or.inr rfl, Or.inr rfl, Or.inr rfl, Or.inr rfl, Or.inr rfl, Or.inr rfl, Or.inr rfl, Or.inl rfl, Or.inl rfl, Or.inl rfl, Or.inl rfl, Or.inl rfl, Or.inl rfl, Or.inl rfl, trivial⟩ ?_
        exact hK15 _ hJ
      · have hJ := hJ.2 h143
        refine zq_aload_n (i := 0) C dL_isChartSo_139 rfl rfl ?_
        refine zq_iload C dL_isChartSo_140 rfl ?_
        refine zq_iconst (x := 3) C dL_isChartSo_142 rfl ik_3 ?_
        refine zq_callVi C [zi x6, zi 3] (wB_barOf l _ _ _  hJ) ck_L_20 iv_X7_barOf rfl sx70 rfl rfl rfl rfl rfl rfl dL_isChartSo_143 (fun r109 M110 hJ => ?_)
        refine zq_iload C dL_isChartSo_146 rfl ?_
        refine zq_aload_n (i := 0) C dL_isChartSo_148 rfl rfl ?_
        refine zq_iload C dL_isChartSo_149 rfl ?_
        refine zq_iconst (x := 2) C dL_isChartSo_151 rfl ik_2 ?_
        refine zq_callVi C [zi x6, zi 2] (wB_barOf l _ _ _  hJ) ck_L_20 iv_X7_barOf rfl sx70 rfl rfl rfl rfl rfl rfl dL_isChartSo_152 (fun r111 M112 hJ => ?_)
        obtain ⟨h113, hJ⟩ := hJ
        refine zq_iadd C dL_isChartSo_155 h113 ?_
        refine zq_icmp_ne (tgt := 238) C dL_isChartSo_156 rfl (fun h142 => ?_) (fun h142 => ?_)
        · have hJ := hJ.1 h142
          refine zq_iconst (x := 0) C dL_isChartSo_238 rfl ik_0 ?_
          refine zq_istore (lv' := [some (zr 70), some (zi x1), some (zi x2), some (zi x3), some (zi s0), some (zi 0), some (zi x6), some (zi x7), some (zi x8), none, none, none, none, none]) C dL_isChartSo_239 (Nat.le_of_ble_eq_true rfl) rfl ?_
          obtain ⟨hv6_114, hJ⟩ := hJ
          refine zq_iinc (y := x6 + 1) (lv' := [some (zr 70), some (zi x1), some (zi x2), some (zi x3), some (zi s0), some (zi 0), some (zi (x6 + 1)), some (zi x7), some (zi x8), none, none, none, none, none]) C dL_isChartSo_241 rfl rfl hv6_114 rfl ?_
          obtain ⟨v6_114, ev6_114⟩ : ∃ z, z = x6 + 1 := ⟨_, rfl⟩
          rw [← ev6_114]
          have hJ := hJ v6_114 ev6_114
          refine zq_goto (tgt := 15) C dL_isChartSo_244 rfl ?_
          refine zq_weak [some (zr 70), some (zi x1), some (zi x2), some (zi x3), some (zi s0), some (zi 0), some (zi v6_114), none, none, none, none, none, none, none] ⟨Or.inr rfl, Or.inr rfl, Or.inr rfl, Or.inr rfl, Or.inr rfl, Or.inr rfl, Or.inr rfl, Or.inl rfl, Or.inl rfl, Or.inl rfl, Or.inl rfl, Or.inl rfl, Or.inl rfl, Or.inl rfl, trivial⟩ ?_
          exact hK15 _ hJ
        · have hJ := hJ.2 h142
          refine zq_aload_n (i := 0) C dL_isChartSo_159 rfl rfl ?_
          refine zq_iload C dL_isChartSo_160 rfl ?_
          refine zq_iconst (x := 3) C dL_isChartSo_162 rfl ik_3 ?_
          refine zq_callVi C [zi x6, zi 3] (wB_barOf l _ _ _  hJ) ck_L_20 iv_X7_barOf rfl sx70 rfl rfl rfl rfl rfl rfl dL_isChartSo_163 (fun r115 M116 hJ => ?_)
          refine zq_sipush (x := 200) C dL_isChartSo_166 si_200 ik_200 ?_
          refine zq_icmp_gt (tgt := 238) C dL_isChartSo_169 rfl (fun h141 => ?_) (fun h141 => ?_)
          · have hJ := hJ.1 h141
            refine zq_iconst (x := 0) C dL_isChartSo_238 rfl ik_0 ?_
            refine zq_istore (lv' := [some (zr 70), some (zi x1), some (zi x2), some (zi x3), some (zi s0), some (zi 0), some (zi x6), some (zi x7), some (zi x8), none, none, none, none, none]) C dL_isChartSo_239 (Nat.le_of_ble_eq_true rfl) rfl ?_
            obtain ⟨hv6_117, hJ⟩ := hJ
            refine zq_iinc (y := x6 + 1) (lv' := [some (zr 70), some (zi x1), some (zi x2), some (zi x3), some (zi s0), some (zi 0), some (zi (x6 + 1)), some (zi x7), some (zi x8), none, none, none, none, none]) C dL_isChartSo_241 rfl rfl hv6_117 rfl ?_
            obtain ⟨v6_117, ev6_117⟩ : ∃ z, z = x6 + 1 := ⟨_, rfl⟩
            rw [← ev6_117]
            have hJ := hJ v6_117 ev6_117
            refine zq_goto (tgt := 15) C dL_isChartSo_244 rfl ?_
            refine zq_weak [some (zr 70), some (zi x1), some (zi x2), some (zi x3), some (zi s0), some (zi 0), some (zi v6_117), none, none, none, none, none, none, none] ⟨Or.inr rfl, Or.inr rfl, Or.inr rfl, Or.inr rfl, Or.inr rfl, Or.inr rfl, Or.inr rfl, Or.inl rfl, Or.inl rfl, Or.inl rfl, Or.inl rfl, Or.inl rfl, Or.inl rfl, Or.inl rfl, trivial⟩ ?_
            exact hK15 _ hJ
          · have hJ := hJ.2 h141
            refine zq_iload C dL_isChartSo_172 rfl ?_
            refine zq_aload_n (i := 0) C dL_isChartSo_174 rfl rfl ?_
            refine zq_iload C dL_isChartSo_175 rfl ?_
            refine zq_callVi C [zi x6] (wB_latest l _ _  hJ) ck_L_69 iv_X7_latest rfl sx70 rfl rfl rfl rfl rfl rfl dL_isChartSo_177 (fun r118 M119 hJ => ?_)
            refine zq_iload C dL_isChartSo_180 rfl ?_
            obtain ⟨h120, hJ⟩ := hJ
            refine zq_isub C dL_isChartSo_182 h120 ?_
            refine zq_icmp_ne (tgt := 238) C dL_isChartSo_183 rfl (fun h140 => ?_) (fun h140 => ?_)
            · have hJ := hJ.1 h140
              refine zq_iconst (x := 0) C dL_isChartSo_238 rfl ik_0 ?_
              refine zq_istore (lv' := [some (zr 70), some (zi x1), some (zi x2), some (zi x3), some (zi s0), some (zi 0), some (zi x6), some (zi x7), some (zi x8), none, none, none, none, none]) C dL_isChartSo_239 (Nat.le_of_ble_eq_true rfl) rfl ?_
              obtain ⟨hv6_121, hJ⟩ := hJ
              refine zq_iinc (y := x6 + 1) (lv' := [some (zr 70), some (zi x1), some (zi x2), some (zi x3), some (zi s0), some (zi 0), some (zi (x6 + 1)), some (zi x7), some (zi x8), none, none, none, none, none]) C dL_isChartSo_241 rfl rfl hv6_121 rfl ?_
              obtain ⟨v6_121, ev6_121⟩ : ∃ z, z = x6 + 1 := ⟨_, rfl⟩
              rw [← ev6_121]
              have hJ := hJ v6_121 ev6_121
              refine zq_goto (tgt := 15) C dL_isChartSo_244 rfl ?_
              refine zq_weak [some (zr 70), some (zi x1), some (zi x2), some (zi x3), some (zi s0), some (zi 0), some (zi v6_121), none, none, none, none, none, none, none] ⟨Or.inr rfl, Or.inr rfl, Or.inr rfl, Or.inr rfl, Or.inr rfl, Or.inr rfl, Or.inr rfl, Or.inl rfl, Or.inl rfl, Or.inl rfl, Or.inl rfl, Or.inl rfl, Or.inl rfl, Or.inl rfl, trivial⟩ ?_
              exact hK15 _ hJ
            · have hJ := hJ.2 h140
              refine zq_iload C dL_isChartSo_186 rfl ?_
              refine zq_if_lt (tgt := 238) C dL_isChartSo_188 rfl (fun h139 => ?_) (fun h139 => ?_)
              · have hJ := hJ.1 h139
                refine zq_iconst (x := 0) C dL_isChartSo_238 rfl ik_0 ?_
                refine zq_istore (lv' := [some (zr 70), some (zi x1), some (zi x2), some (zi x3), some (zi s0), some (zi 0), some (zi x6), some (zi x7), some (zi x8), none, none, none, none, none]) C dL_isChartSo_239 (Nat.le_of_ble_eq_true rfl) rfl ?_
                obtain ⟨hv6_122, hJ⟩ := hJ
                refine zq_iinc (y := x6 + 1) (lv' := [some (zr 70), some (zi x1), some (zi x2), some (zi x3), some (zi s0), some (zi 0), some (zi (x6 + 1)), some (zi x7), some (zi x8), none, none, none, none, none]) C dL_isChartSo_241 rfl rfl hv6_122 rfl ?_
                obtain ⟨v6_122, ev6_122⟩ : ∃ z, z = x6 + 1 := ⟨_, rfl⟩
                rw [← ev6_122]
                have hJ := hJ v6_122 ev6_122
                refine zq_goto (tgt := 15) C dL_isChartSo_244 rfl ?_
                refine zq_weak [some (zr 70), some (zi x1), some (zi x2), some (zi x3), some (zi s0), some (zi 0), some (zi v6_122), none, none, none, none, none, none, none] ⟨Or.inr rfl, Or.inr rfl, Or.inr rfl, Or.inr rfl, Or.inr rfl, Or.inr rfl, Or.inr rfl, Or.inl rfl, Or.inl rfl, Or.inl rfl, Or.inl rfl, Or.inl rfl, Or.inl rfl, Or.inl rfl, trivial⟩ ?_
                exact hK15 _ hJ
              · have hJ := hJ.2 h139
                refine zq_aload_n (i := 0) C dL_isChartSo_191 rfl rfl ?_
                refine zq_aload_n (i := 0) C dL_isChartSo_192 rfl rfl ?_
                refine zq_iload C dL_isChartSo_193 rfl ?_
                refine zq_iconst (x := 0) C dL_isChartSo_195 rfl ik_0 ?_
                refine zq_callVi C [zi x6, zi 0] (wB_barOf l _ _ _  hJ) ck_L_20 iv_X7_barOf rfl sx70 rfl rfl rfl rfl rfl rfl dL_isChartSo_196 (fun r123 M124 hJ => ?_)
                refine zq_iload C dL_isChartSo_199 rfl ?_
                refine zq_callVi C [zi r123, zi x7] (wB_cell l _ _ _  hJ) ck_L_72 iv_X7_cell rfl sx70 rfl rfl rfl rfl rfl rfl dL_isChartSo_201 (fun r125 N126 hN126 => ?_)
                obtain ⟨rfl, hJ⟩ := hN126
                refine zq_iload C dL_isChartSo_204 rfl ?_
                refine zq_icmp_ne (tgt := 238) C dL_isChartSo_206 rfl (fun h138 => ?_) (fun h138 => ?_)
                · have hJ := hJ.1 h138
                  refine zq_iconst (x := 0) C dL_isChartSo_238 rfl ik_0 ?_
                  refine zq_istore (lv' := [some (zr 70), some (zi x1), some (zi x2), some (zi x3), some (zi s0), some (zi 0), some (zi x6), some (zi x7), some (zi x8), none, none, none, none, none]) C dL_isChartSo_239 (Nat.le_of_ble_eq_true rfl) rfl ?_
                  obtain ⟨hv6_127, hJ⟩ := hJ
                  refine zq_iinc (y := x6 + 1) (lv' := [some (zr 70), some (zi x1), some (zi x2), some (zi x3), some (zi s0), some (zi 0), some (zi (x6 + 1)), some (zi x7), some (zi x8), none, none, none, none, none]) C dL_isChartSo_241 rfl rfl hv6_127 rfl ?_
                  obtain ⟨v6_127, ev6_127⟩ : ∃ z, z = x6 + 1 := ⟨_, rfl⟩
                  rw [← ev6_127]
                  have hJ := hJ v6_127 ev6_127
                  refine zq_goto (tgt := 15) C dL_isChartSo_244 rfl ?_
                  refine zq_weak [some (zr 70), some (zi x1), some (zi x2), some (zi x3), some (zi s0), some (zi 0), some (zi v6_127), none, none, none, none, none, none, none] ⟨Or.inr rfl, Or.inr rfl, Or.inr rfl, Or.inr rfl, Or.inr rfl, Or.inr rfl, Or.inr rfl, Or.inl rfl, Or.inl rfl, Or.inl rfl, Or.inl rfl, Or.inl rfl, Or.inl rfl, Or.inl rfl, trivial⟩ ?_
                  exact hK15 _ hJ
                · have hJ := hJ.2 h138
                  refine zq_aload_n (i := 0) C dL_isChartSo_209 rfl rfl ?_
                  refine zq_aload_n (i := 0) C dL_isChartSo_210 rfl rfl ?_
                  refine zq_iload C dL_isChartSo_211 rfl ?_
                  refine zq_iconst (x := 0) C dL_isChartSo_213 rfl ik_0 ?_
                  refine zq_callVi C [zi x6, zi 0] (wB_barOf l _ _ _  hJ) ck_L_20 iv_X7_barOf rfl sx70 rfl rfl rfl rfl rfl rfl dL_isChartSo_214 (fun r128 M129 hJ => ?_)
                  refine zq_aload_n (i := 0) C dL_isChartSo_217 rfl rfl ?_
                  refine zq_iload C dL_isChartSo_218 rfl ?_
                  refine zq_iconst (x := 3) C dL_isChartSo_220 rfl ik_3 ?_
                  refine zq_callVi C [zi x6, zi 3] (wB_barOf l _ _ _  hJ) ck_L_20 iv_X7_barOf rfl sx70 rfl rfl rfl rfl rfl rfl dL_isChartSo_221 (fun r130 M131 hJ => ?_)
                  refine zq_iconst (x := 1) C dL_isChartSo_224 rfl ik_1 ?_
                  obtain ⟨h132, hJ⟩ := hJ
                  refine zq_isub C dL_isChartSo_225 h132 ?_
                  refine zq_callVi C [zi r128, zi (r130 - 1)] (wB_cell l _ _ _  hJ) ck_L_72 iv_X7_cell rfl sx70 rfl rfl rfl rfl rfl rfl dL_isChartSo_226 (fun r133 N134 hN134 => ?_)
                  obtain ⟨rfl, hJ⟩ := hN134
                  refine zq_iload C dL_isChartSo_229 rfl ?_
                  refine zq_icmp_ne (tgt := 238) C dL_isChartSo_231 rfl (fun h137 => ?_) (fun h137 => ?_)
                  · have hJ := hJ.1 h137
                    refine zq_iconst (x := 0) C dL_isChartSo_238 rfl ik_0 ?_
                    refine zq_istore (lv' := [some (zr 70), some (zi x1), some (zi x2), some (zi x3), some (zi s0), some (zi 0), some (zi x6), some (zi x7), some (zi x8), none, none, none, none, none]) C dL_isChartSo_239 (Nat.le_of_ble_eq_true rfl) rfl ?_
                    obtain ⟨hv6_135, hJ⟩ := hJ
                    refine zq_iinc (y := x6 + 1) (lv' := [some (zr 70), some (zi x1), some (zi x2), some (zi x3), some (zi s0), some (zi 0), some (zi (x6 + 1)), some (zi x7), some (zi x8), none, none, none, none, none]) C dL_isChartSo_241 rfl rfl hv6_135 rfl ?_
                    obtain ⟨v6_135, ev6_135⟩ : ∃ z, z = x6 + 1 := ⟨_, rfl⟩
                    rw [← ev6_135]
                    have hJ := hJ v6_135 ev6_135
                    refine zq_goto (tgt := 15) C dL_isChartSo_244 rfl ?_
                    refine zq_weak [some (zr 70), some (zi x1), some (zi x2), some (zi x3), some (zi s0), some (zi 0), some (zi v6_135), none, none, none, none, none, none, none] ⟨Or.inr rfl, Or.inr rfl, Or.inr rfl, Or.inr rfl, Or.inr rfl, Or.inr rfl, Or.inr rfl, Or.inl rfl, Or.inl rfl, Or.inl rfl, Or.inl rfl, Or.inl rfl, Or.inl rfl, Or.inl rfl, trivial⟩ ?_
                    exact hK15 _ hJ
                  · have hJ := hJ.2 h137
                    refine zq_iconst (x := 1) C dL_isChartSo_234 rfl ik_1 ?_
                    refine zq_goto (tgt := 239) C dL_isChartSo_235 rfl ?_
                    refine zq_istore (lv' := [some (zr 70), some (zi x1), some (zi x2), some (zi x3), some (zi s0), some (zi 1), some (zi x6), some (zi x7), some (zi x8), none, none, none, none, none]) C dL_isChartSo_239 (Nat.le_of_ble_eq_true rfl) rfl ?_
                    obtain ⟨hv6_136, hJ⟩ := hJ
                    refine zq_iinc (y := x6 + 1) (lv' := [some (zr 70), some (zi x1), some (zi x2), some (zi x3), some (zi s0), some (zi 1), some (zi (x6 + 1)), some (zi x7), some (zi x8), none, none, none, none, none]) C dL_isChartSo_241 rfl rfl hv6_136 rfl ?_
                    obtain ⟨v6_136, ev6_136⟩ : ∃ z, z = x6 + 1 := ⟨_, rfl⟩
                    rw [← ev6_136]
                    have hJ := hJ v6_136 ev6_136
                    refine zq_goto (tgt := 15) C dL_isChartSo_244 rfl ?_
                    refine zq_weak [some (zr 70), some (zi x1), some (zi x2), some (zi x3), some (zi s0), some (zi 1), some (zi v6_136), none, none, none, none, none, none, none] ⟨Or.inr rfl, Or.inr rfl, Or.inr rfl, Or.inr rfl, Or.inr rfl, Or.inr rfl, Or.inr rfl, Or.inl rfl, Or.inl rfl, Or.inl rfl, Or.inl rfl, Or.inl rfl, Or.inl rfl, Or.inl rfl, trivial⟩ ?_
                    exact hK15 _ hJ
    have hj92 : ∀ (x1 x2 x4 x5 x6 x7 x8 s0 s1 : Int) (M : zM), jL_isChartSo_J92 K15 Φ x1 x2 x4 x5 x6 x7 x8 s0 s1 M → zG X M 92 [some (zr 70), some (zi x1), some (zi x2), none, some (zi x4), some (zi x5), some (zi x6), some (zi x7), some (zi x8), none, none, none, none, none] [zi s1, zi s0] := by
      intro x1 x2 x4 x5 x6 x7 x8 s0 s1 M hJ
      unfold jL_isChartSo_J92 at hJ
      obtain ⟨h101, hJ⟩ := hJ
      refine zq_iadd C dL_isChartSo_92 h101 ?_
      refine zq_istoreN_n (i := 3) C (fun v => [some (zr 70), some (zi x1), some (zi x2), some (zi v), some (zi x4), some (zi x5), some (zi x6), some (zi x7), some (zi x8), none, none, none, none, none]) dL_isChartSo_93 rfl (Nat.le_of_ble_eq_true rfl) (fun _ => rfl) (fun v3_102 hv3_102 => ?_)
      have hJ := hJ v3_102 hv3_102
      refine zq_aload_n (i := 0) C dL_isChartSo_94 rfl rfl ?_
      refine zq_iload C dL_isChartSo_95 rfl ?_
      refine zq_callVi C [zi x6] (wB_latest l _ _  hJ) ck_L_69 iv_X7_latest rfl sx70 rfl rfl rfl rfl rfl rfl dL_isChartSo_97 (fun r103 M104 hJ => ?_)
      refine zq_aload_n (i := 0) C dL_isChartSo_100 rfl rfl ?_
      refine zq_iload C dL_isChartSo_101 rfl ?_
      refine zq_iconst (x := 2) C dL_isChartSo_103 rfl ik_2 ?_
      refine zq_callVi C [zi x6, zi 2] (wB_barOf l _ _ _  hJ) ck_L_20 iv_X7_barOf rfl sx70 rfl rfl rfl rfl rfl rfl dL_isChartSo_104 (fun r105 M106 hJ => ?_)
      obtain ⟨h107, hJ⟩ := hJ
      refine zq_iadd C dL_isChartSo_107 h107 ?_
      refine zq_iload C dL_isChartSo_108 rfl ?_
      refine zq_icmp_le (tgt := 130) C dL_isChartSo_110 rfl (fun h149 => ?_) (fun h149 => ?_)
      · have hJ := hJ.1 h149
        refine zq_iload C dL_isChartSo_130 rfl ?_
        refine zq_weak [some (zr 70), some (zi x1), some (zi x2), some (zi v3_102), none, some (zi x5), some (zi x6), some (zi x7), some (zi x8), none, none, none, none, none] ⟨Or.inr rfl, Or.inr rfl, Or.inr rfl, Or.inr rfl, Or.inl rfl, Or.inr rfl, Or.inr rfl, Or.inr rfl, Or.inr rfl, Or.inl rfl, Or.inl rfl, Or.inl rfl, Or.inl rfl, Or.inl rfl, trivial⟩ ?_
        exact hj132 _ _ _ _ _ _ _ _ _ hJ
      · have hJ := hJ.2 h149
        refine zq_aload_n (i := 0) C dL_isChartSo_113 rfl rfl ?_
        refine zq_iload C dL_isChartSo_114 rfl ?_
        refine zq_callVi C [zi x6] (wB_latest l _ _  hJ) ck_L_69 iv_X7_latest rfl sx70 rfl rfl rfl rfl rfl rfl dL_isChartSo_116 (fun r144 M145 hJ => ?_)
        refine zq_aload_n (i := 0) C dL_isChartSo_119 rfl rfl ?_
        refine zq_iload C dL_isChartSo_120 rfl ?_
        refine zq_iconst (x := 2) C dL_isChartSo_122 rfl ik_2 ?_
        refine zq_callVi C [zi x6, zi 2] (wB_barOf l _ _ _  hJ) ck_L_20 iv_X7_barOf rfl sx70 rfl rfl rfl rfl rfl rfl dL_isChartSo_123 (fun r146 M147 hJ => ?_)
        obtain ⟨h148, hJ⟩ := hJ
        refine zq_iadd C dL_isChartSo_126 h148 ?_
        refine zq_goto (tgt := 132) C dL_isChartSo_127 rfl ?_
        refine zq_weak [some (zr 70), some (zi x1), some (zi x2), some (zi v3_102), none, some (zi x5), some (zi x6), some (zi x7), some (zi x8), none, none, none, none, none] ⟨Or.inr rfl, Or.inr rfl, Or.inr rfl, Or.inr rfl, Or.inl rfl, Or.inr rfl, Or.inr rfl, Or.inr rfl, Or.inr rfl, Or.inl rfl, Or.inl rfl, Or.inl rfl, Or.inl rfl, Or.inl rfl, trivial⟩ ?_
        exact hj132 _ _ _ _ _ _ _ _ _ hJ
    have hj80 : ∀ (x2 x3 x4 x5 x6 x7 x8 s0 : Int) (M : zM), jL_isChartSo_J80 K15 Φ x2 x3 x4 x5 x6 x7 x8 s0 M → zG X M 80 [some (zr 70), none, some (zi x2), some (zi x3), some (zi x4), some (zi x5), some (zi x6), some (zi x7), some (zi x8), none, none, none, none, none] [zi s0] := by
      intro x2 x3 x4 x5 x6 x7 x8 s0 M hJ
      unfold jL_isChartSo_J80 at hJ
      refine zq_istore_n (i := 1) (lv' := [some (zr 70), some (zi s0), some (zi x2), some (zi x3), some (zi x4), some (zi x5), some (zi x6), some (zi x7), some (zi x8), none, none, none, none, none]) C dL_isChartSo_80 rfl (Nat.le_of_ble_eq_true rfl) rfl ?_
      refine zq_iload_n (i := 3) C dL_isChartSo_81 rfl rfl ?_
      refine zq_iload C dL_isChartSo_82 rfl ?_
      refine zq_if_ne (tgt := 91) C dL_isChartSo_84 rfl (fun h150 => ?_) (fun h150 => ?_)
      · have hJ := hJ.1 h150
        refine zq_iconst (x := 0) C dL_isChartSo_91 rfl ik_0 ?_
        refine zq_weak [some (zr 70), some (zi s0), some (zi x2), none, some (zi x4), some (zi x5), some (zi x6), some (zi x7), some (zi x8), none, none, none, none, none] ⟨Or.inr rfl, Or.inr rfl, Or.inr rfl, Or.inl rfl, Or.inr rfl, Or.inr rfl, Or.inr rfl, Or.inr rfl, Or.inr rfl, Or.inl rfl, Or.inl rfl, Or.inl rfl, Or.inl rfl, Or.inl rfl, trivial⟩ ?_
        exact hj92 _ _ _ _ _ _ _ _ _ _ hJ
      · have hJ := hJ.2 h150
        refine zq_iconst (x := 1) C dL_isChartSo_87 rfl ik_1 ?_
        refine zq_goto (tgt := 92) C dL_isChartSo_88 rfl ?_
        refine zq_weak [some (zr 70), some (zi s0), some (zi x2), none, some (zi x4), some (zi x5), some (zi x6), some (zi x7), some (zi x8), none, none, none, none, none] ⟨Or.inr rfl, Or.inr rfl, Or.inr rfl, Or.inl rfl, Or.inr rfl, Or.inr rfl, Or.inr rfl, Or.inr rfl, Or.inr rfl, Or.inl rfl, Or.inl rfl, Or.inl rfl, Or.inl rfl, Or.inl rfl, trivial⟩ ?_
        exact hj92 _ _ _ _ _ _ _ _ _ _ hJ
    refine zq_iload C dL_isChartSo_15 rfl ?_
    refine zq_aload_n (i := 0) C dL_isChartSo_17 rfl rfl ?_
    refine zq_bipush (x := 10) C dL_isChartSo_18 bi_10 ik_10 ?_
    refine zq_callVi C [zi 10] (wB_count l _ _  hJ) ck_L_8 iv_X7_count rfl sx70 rfl rfl rfl rfl rfl rfl dL_isChartSo_20 (fun r1 M2 hJ => ?_)
    refine zq_icmp_ge (tgt := 247) C dL_isChartSo_23 rfl (fun h155 => ?_) (fun h155 => ?_)
    · have hJ := hJ.1 h155
      refine zq_iconst (x := 0) C dL_isChartSo_247 rfl ik_0 ?_
      refine zq_istore (lv' := [some (zr 70), some (zi x1), some (zi x2), some (zi x3), some (zi x4), some (zi x5), some (zi 0), none, none, none, none, none, none, none]) C dL_isChartSo_248 (Nat.le_of_ble_eq_true rfl) rfl ?_
      refine zq_iconst (x := 0) C dL_isChartSo_250 rfl ik_0 ?_
      refine zq_istore (lv' := [some (zr 70), some (zi x1), some (zi x2), some (zi x3), some (zi x4), some (zi x5), some (zi 0), some (zi 0), none, none, none, none, none, none]) C dL_isChartSo_251 (Nat.le_of_ble_eq_true rfl) rfl ?_
      refine zq_iconst (x := 0) C dL_isChartSo_253 rfl ik_0 ?_
      refine zq_istore (lv' := [some (zr 70), some (zi x1), some (zi x2), some (zi x3), some (zi x4), some (zi x5), some (zi 0), some (zi 0), some (zi 0), none, none, none, none, none]) C dL_isChartSo_254 (Nat.le_of_ble_eq_true rfl) rfl ?_
      refine zq_aload_n (i := 0) C dL_isChartSo_256 rfl rfl ?_
      refine zq_bipush (x := 7) C dL_isChartSo_257 bi_7 ik_7 ?_
      refine zq_callVi C [zi 7] (wB_count l _ _  hJ) ck_L_8 iv_X7_count rfl sx70 rfl rfl rfl rfl rfl rfl dL_isChartSo_259 (fun r3 M4 hJ => ?_)
      refine zq_istore (lv' := [some (zr 70), some (zi x1), some (zi x2), some (zi x3), some (zi x4), some (zi x5), some (zi 0), some (zi 0), some (zi 0), some (zi r3), none, none, none, none]) C dL_isChartSo_262 (Nat.le_of_ble_eq_true rfl) rfl ?_
      refine zq_iconst (x := 0) C dL_isChartSo_264 rfl ik_0 ?_
      refine zq_istore (lv' := [some (zr 70), some (zi x1), some (zi x2), some (zi x3), some (zi x4), some (zi x5), some (zi 0), some (zi 0), some (zi 0), some (zi r3), some (zi 0), none, none, none]) C dL_isChartSo_265 (Nat.le_of_ble_eq_true rfl) rfl ?_
      exact hl267 _ _ _ _ _ _ hJ
    · have hJ := hJ.2 h155
      refine zq_aload_n (i := 0) C dL_isChartSo_26 rfl rfl ?_
      refine zq_iload C dL_isChartSo_27 rfl ?_
      refine zq_iconst (x := 0) C dL_isChartSo_29 rfl ik_0 ?_
      refine zq_callVi C [zi x6, zi 0] (wB_barOf l _ _ _  hJ) ck_L_20 iv_X7_barOf rfl sx70 rfl rfl rfl rfl rfl rfl dL_isChartSo_30 (fun r91 M92 hJ => ?_)
      refine zq_if_lt (tgt := 241) C dL_isChartSo_33 rfl (fun h154 => ?_) (fun h154 => ?_)
      · have hJ := hJ.1 h154
        obtain ⟨hv6_93, hJ⟩ := hJ
        refine zq_iinc (y := x6 + 1) (lv' := [some (zr 70), some (zi x1), some (zi x2), some (zi x3), some (zi x4), some (zi x5), some (zi (x6 + 1)), none, none, none, none, none, none, none]) C dL_isChartSo_241 rfl rfl hv6_93 rfl ?_
        obtain ⟨v6_93, ev6_93⟩ : ∃ z, z = x6 + 1 := ⟨_, rfl⟩
        rw [← ev6_93]
        have hJ := hJ v6_93 ev6_93
        refine zq_goto (tgt := 15) C dL_isChartSo_244 rfl ?_
        exact hK15 _ hJ
      · have hJ := hJ.2 h154
        refine zq_aload_n (i := 0) C dL_isChartSo_36 rfl rfl ?_
        refine zq_iload C dL_isChartSo_37 rfl ?_
        refine zq_iconst (x := 1) C dL_isChartSo_39 rfl ik_1 ?_
        refine zq_callVi C [zi x6, zi 1] (wB_barOf l _ _ _  hJ) ck_L_20 iv_X7_barOf rfl sx70 rfl rfl rfl rfl rfl rfl dL_isChartSo_40 (fun r94 M95 hJ => ?_)
        refine zq_istore (lv' := [some (zr 70), some (zi x1), some (zi x2), some (zi x3), some (zi x4), some (zi x5), some (zi x6), some (zi r94), none, none, none, none, none, none]) C dL_isChartSo_43 (Nat.le_of_ble_eq_true rfl) rfl ?_
        refine zq_aload_n (i := 0) C dL_isChartSo_45 rfl rfl ?_
        refine zq_iload C dL_isChartSo_46 rfl ?_
        refine zq_bipush (x := 6) C dL_isChartSo_48 bi_6 ik_6 ?_
        refine zq_callVi C [zi x6, zi 6] (wB_barOf l _ _ _  hJ) ck_L_20 iv_X7_barOf rfl sx70 rfl rfl rfl rfl rfl rfl dL_isChartSo_50 (fun r96 M97 hJ => ?_)
        refine zq_istore (lv' := [some (zr 70), some (zi x1), some (zi x2), some (zi x3), some (zi x4), some (zi x5), some (zi x6), some (zi r94), some (zi r96), none, none, none, none, none]) C dL_isChartSo_53 (Nat.le_of_ble_eq_true rfl) rfl ?_
        obtain ⟨hv2_98, hJ⟩ := hJ
        refine zq_iinc (y := x2 + 1) (lv' := [some (zr 70), some (zi x1), some (zi (x2 + 1)), some (zi x3), some (zi x4), some (zi x5), some (zi x6), some (zi r94), some (zi r96), none, none, none, none, none]) C dL_isChartSo_55 rfl rfl hv2_98 rfl ?_
        obtain ⟨v2_98, ev2_98⟩ : ∃ z, z = x2 + 1 := ⟨_, rfl⟩
        rw [← ev2_98]
        have hJ := hJ v2_98 ev2_98
        refine zq_aload_n (i := 0) C dL_isChartSo_58 rfl rfl ?_
        refine zq_iload C dL_isChartSo_59 rfl ?_
        refine zq_iconst (x := 3) C dL_isChartSo_61 rfl ik_3 ?_
        refine zq_callVi C [zi x6, zi 3] (wB_barOf l _ _ _  hJ) ck_L_20 iv_X7_barOf rfl sx70 rfl rfl rfl rfl rfl rfl dL_isChartSo_62 (fun r99 M100 hJ => ?_)
        refine zq_iload_n (i := 1) C dL_isChartSo_65 rfl rfl ?_
        refine zq_icmp_le (tgt := 79) C dL_isChartSo_66 rfl (fun h153 => ?_) (fun h153 => ?_)
        · have hJ := hJ.1 h153
          refine zq_iload_n (i := 1) C dL_isChartSo_79 rfl rfl ?_
          refine zq_weak [some (zr 70), none, some (zi v2_98), some (zi x3), some (zi x4), some (zi x5), some (zi x6), some (zi r94), some (zi r96), none, none, none, none, none] ⟨Or.inr rfl, Or.inl rfl, Or.inr rfl, Or.inr rfl, Or.inr rfl, Or.inr rfl, Or.inr rfl, Or.inr rfl, Or.inr rfl, Or.inl rfl, Or.inl rfl, Or.inl rfl, Or.inl rfl, Or.inl rfl, trivial⟩ ?_
          exact hj80 _ _ _ _ _ _ _ _ _ hJ
        · have hJ := hJ.2 h153
          refine zq_aload_n (i := 0) C dL_isChartSo_69 rfl rfl ?_
          refine zq_iload C dL_isChartSo_70 rfl ?_
          refine zq_iconst (x := 3) C dL_isChartSo_72 rfl ik_3 ?_
          refine zq_callVi C [zi x6, zi 3] (wB_barOf l _ _ _  hJ) ck_L_20 iv_X7_barOf rfl sx70 rfl rfl rfl rfl rfl rfl dL_isChartSo_73 (fun r151 M152 hJ => ?_)
          refine zq_goto (tgt := 80) C dL_isChartSo_76 rfl ?_
          refine zq_weak [some (zr 70), none, some (zi v2_98), some (zi x3), some (zi x4), some (zi x5), some (zi x6), some (zi r94), some (zi r96), none, none, none, none, none] ⟨Or.inr rfl, Or.inl rfl, Or.inr rfl, Or.inr rfl, Or.inr rfl, Or.inr rfl, Or.inr rfl, Or.inr rfl, Or.inr rfl, Or.inl rfl, Or.inl rfl, Or.inl rfl, Or.inl rfl, Or.inl rfl, trivial⟩ ?_
          exact hj80 _ _ _ _ _ _ _ _ _ hJ
  refine zq_iconst (x := 0) C dL_isChartSo_0 rfl ik_0 ?_
  refine zq_istore_n (i := 1) (lv' := [some (zr 70), some (zi 0), none, none, none, none, none, none, none, none, none, none, none, none]) C dL_isChartSo_1 rfl (Nat.le_of_ble_eq_true rfl) rfl ?_
  refine zq_iconst (x := 0) C dL_isChartSo_2 rfl ik_0 ?_
  refine zq_istore_n (i := 2) (lv' := [some (zr 70), some (zi 0), some (zi 0), none, none, none, none, none, none, none, none, none, none, none]) C dL_isChartSo_3 rfl (Nat.le_of_ble_eq_true rfl) rfl ?_
  refine zq_iconst (x := 0) C dL_isChartSo_4 rfl ik_0 ?_
  refine zq_istore_n (i := 3) (lv' := [some (zr 70), some (zi 0), some (zi 0), some (zi 0), none, none, none, none, none, none, none, none, none, none]) C dL_isChartSo_5 rfl (Nat.le_of_ble_eq_true rfl) rfl ?_
  refine zq_iconst (x := 0) C dL_isChartSo_6 rfl ik_0 ?_
  refine zq_istore (lv' := [some (zr 70), some (zi 0), some (zi 0), some (zi 0), some (zi 0), none, none, none, none, none, none, none, none, none]) C dL_isChartSo_7 (Nat.le_of_ble_eq_true rfl) rfl ?_
  refine zq_iconst (x := 1) C dL_isChartSo_9 rfl ik_1 ?_
  refine zq_istore (lv' := [some (zr 70), some (zi 0), some (zi 0), some (zi 0), some (zi 0), some (zi 1), none, none, none, none, none, none, none, none]) C dL_isChartSo_10 (Nat.le_of_ble_eq_true rfl) rfl ?_
  refine zq_iconst (x := 0) C dL_isChartSo_12 rfl ik_0 ?_
  refine zq_istore (lv' := [some (zr 70), some (zi 0), some (zi 0), some (zi 0), some (zi 0), some (zi 1), some (zi 0), none, none, none, none, none, none, none]) C dL_isChartSo_13 (Nat.le_of_ble_eq_true rfl) rfl ?_
  exact hl15 _ hJ
