set_option maxRecDepth 100000 in
set_option maxHeartbeats 4000000 in
theorem wL_areBestSo (l : Launch) (a2 a3 : Int) (M : zM) {Φ : Int → zM → Prop} (hJ : jL_areBestSo a2 a3 M Φ) : zMet l yL_areBestSo cL_areBestSo 18 (some .boolean) 8 187 shX [zr 70, zi a2, zi a3] M (zI Φ) := by
  refine zq_enter [some (zr 70), some (zi a2), some (zi a3), none, none, none, none, none, none, none, none, none, none, none, none, none, none, none] (by decide) rfl (Nat.le_of_ble_eq_true rfl) rfl (fun X C => ?_)
  unfold jL_areBestSo at hJ
  have hl355 : ∀ (x5 x13 x14 x15 x16 : Int) (s : Int × Int × zM), zwh (fun K s => jL_areBestSo_L355 a2 a3 K Φ x5 x13 x14 x15 x16 (s.1) (s.2.1) (s.2.2)) s → zG X (s.2.2) 355 [some (zr 70), some (zi a2), some (zi a3), none, none, some (zi x5), none, none, none, none, none, some (zi (s.1)), none, some (zi x13), some (zi x14), some (zi x15), some (zi x16), some (zi (s.2.1))] [] := by
    intro x5 x13 x14 x15 x16
    refine zwh_sound ?_
    intro K355 s hK355 hJ
    obtain ⟨x11, x17, M⟩ := s
    have hJ : jL_areBestSo_L355 a2 a3 K355 Φ x5 x13 x14 x15 x16 x11 x17 M := hJ
    show zG X M 355 [some (zr 70), some (zi a2), some (zi a3), none, none, some (zi x5), none, none, none, none, none, some (zi x11), none, some (zi x13), some (zi x14), some (zi x15), some (zi x16), some (zi x17)] []
    unfold jL_areBestSo_L355 at hJ
    have hj409 : ∀ (x17 s0 : Int) (M : zM), jL_areBestSo_J409 a2 a3 K355 Φ x5 x13 x14 x15 x16 x17 s0 M → zG X M 409 [some (zr 70), some (zi a2), some (zi a3), none, none, some (zi x5), none, none, none, none, none, none, none, some (zi x13), some (zi x14), some (zi x15), some (zi x16), some (zi x17)] [zi s0] := by
      intro x17 s0 M hJ
      unfold jL_areBestSo_J409 at hJ
      refine zq_istore (lv' := [some (zr 70), some (zi a2), some (zi a3), none, none, some (zi x5), none, none, none, none, none, some (zi s0), none, some (zi x13), some (zi x14), some (zi x15), some (zi x16), some (zi x17)]) C dL_areBestSo_409 (Nat.le_of_ble_eq_true rfl) rfl ?_
      refine zq_aload_n (i := 0) C dL_areBestSo_411 rfl rfl ?_
      refine zq_callVi C [] (wB_undo l _  hJ) ck_L_84 iv_X7_undo rfl sx70 rfl rfl rfl rfl rfl rfl dL_areBestSo_412 (fun r35 M36 hJ => ?_)
      refine zq_istore (lv' := [some (zr 70), some (zi a2), some (zi a3), none, none, some (zi x5), none, none, none, none, none, some (zi s0), some (zi r35), some (zi x13), some (zi x14), some (zi x15), some (zi x16), some (zi x17)]) C dL_areBestSo_415 (Nat.le_of_ble_eq_true rfl) rfl ?_
      obtain ⟨hv17_37, hJ⟩ := hJ
      refine zq_iinc (y := x17 + 1) (lv' := [some (zr 70), some (zi a2), some (zi a3), none, none, some (zi x5), none, none, none, none, none, some (zi s0), some (zi r35), some (zi x13), some (zi x14), some (zi x15), some (zi x16), some (zi (x17 + 1))]) C dL_areBestSo_417 rfl rfl hv17_37 rfl ?_
      obtain ⟨v17_37, ev17_37⟩ : ∃ z, z = x17 + 1 := ⟨_, rfl⟩
      rw [← ev17_37]
      have hJ := hJ v17_37 ev17_37
      refine zq_goto (tgt := 355) C dL_areBestSo_420 rfl ?_
      refine zq_weak [some (zr 70), some (zi a2), some (zi a3), none, none, some (zi x5), none, none, none, none, none, some (zi s0), none, some (zi x13), some (zi x14), some (zi x15), some (zi x16), some (zi v17_37)] ⟨Or.inr rfl, Or.inr rfl, Or.inr rfl, Or.inl rfl, Or.inl rfl, Or.inr rfl, Or.inl rfl, Or.inl rfl, Or.inl rfl, Or.inl rfl, Or.inl rfl, Or.inr rfl, Or.inl rfl, Or.inr rfl, Or.inr rfl, Or.inr rfl, Or.inr rfl, Or.inr rfl, trivial⟩ ?_
      exact hK355 _ hJ
    have hj408 : ∀ (x17 : Int) (M : zM), jL_areBestSo_J408 a2 a3 K355 Φ x5 x13 x14 x15 x16 x17 M → zG X M 408 [some (zr 70), some (zi a2), some (zi a3), none, none, some (zi x5), none, none, none, none, none, none, none, some (zi x13), some (zi x14), some (zi x15), some (zi x16), some (zi x17)] [] := by
      intro x17 M hJ
      unfold jL_areBestSo_J408 at hJ
      refine zq_iconst (x := 0) C dL_areBestSo_408 rfl ik_0 ?_
      exact hj409 _ _ _ hJ
    have hj404 : ∀ (x17 : Int) (M : zM), jL_areBestSo_J404 a2 a3 K355 Φ x5 x13 x14 x15 x16 x17 M → zG X M 404 [some (zr 70), some (zi a2), some (zi a3), none, none, some (zi x5), none, none, none, none, none, none, none, some (zi x13), some (zi x14), some (zi x15), some (zi x16), some (zi x17)] [] := by
      intro x17 M hJ
      unfold jL_areBestSo_J404 at hJ
      refine zq_iconst (x := 1) C dL_areBestSo_404 rfl ik_1 ?_
      refine zq_goto (tgt := 409) C dL_areBestSo_405 rfl ?_
      exact hj409 _ _ _ hJ
    refine zq_iload C dL_areBestSo_355 rfl ?_
    refine zq_bipush (x := 12) C dL_areBestSo_357 bi_12 ik_12 ?_
    refine zq_icmp_ge (tgt := 423) C dL_areBestSo_359 rfl (fun h43 => ?_) (fun h43 => ?_)
    · have hJ := hJ.1 h43
      refine zq_iload C dL_areBestSo_423 rfl ?_
      refine zq_if_eq (tgt := 453) C dL_areBestSo_425 rfl (fun h31 => ?_) (fun h31 => ?_)
      · have hJ := hJ.1 h31
        refine zq_iconst (x := 0) C dL_areBestSo_453 rfl ik_0 ?_
        exact zq_zret C rfl (Or.inl rfl) ⟨_, rfl, hJ⟩ dL_areBestSo_454
      · have hJ := hJ.2 h31
        refine zq_aload_n (i := 0) C dL_areBestSo_428 rfl rfl ?_
        refine zq_iload_n (i := 1) C dL_areBestSo_429 rfl rfl ?_
        refine zq_iconst (x := 0) C dL_areBestSo_430 rfl ik_0 ?_
        refine zq_callVi C [zi a2, zi 0] (wB_barOf l _ _ _  hJ) ck_L_20 iv_X7_barOf rfl sx70 rfl rfl rfl rfl rfl rfl dL_areBestSo_431 (fun r25 M26 hJ => ?_)
        refine zq_iload C dL_areBestSo_434 rfl ?_
        refine zq_icmp_ne (tgt := 453) C dL_areBestSo_436 rfl (fun h30 => ?_) (fun h30 => ?_)
        · have hJ := hJ.1 h30
          refine zq_iconst (x := 0) C dL_areBestSo_453 rfl ik_0 ?_
          exact zq_zret C rfl (Or.inl rfl) ⟨_, rfl, hJ⟩ dL_areBestSo_454
        · have hJ := hJ.2 h30
          refine zq_aload_n (i := 0) C dL_areBestSo_439 rfl rfl ?_
          refine zq_iconst (x := 3) C dL_areBestSo_440 rfl ik_3 ?_
          refine zq_callVi C [zi 3] (wB_count l _ _  hJ) ck_L_8 iv_X7_count rfl sx70 rfl rfl rfl rfl rfl rfl dL_areBestSo_441 (fun r27 M28 hJ => ?_)
          refine zq_iload C dL_areBestSo_444 rfl ?_
          refine zq_icmp_ne (tgt := 453) C dL_areBestSo_446 rfl (fun h29 => ?_) (fun h29 => ?_)
          · have hJ := hJ.1 h29
            refine zq_iconst (x := 0) C dL_areBestSo_453 rfl ik_0 ?_
            exact zq_zret C rfl (Or.inl rfl) ⟨_, rfl, hJ⟩ dL_areBestSo_454
          · have hJ := hJ.2 h29
            refine zq_iconst (x := 1) C dL_areBestSo_449 rfl ik_1 ?_
            refine zq_goto (tgt := 454) C dL_areBestSo_450 rfl ?_
            exact zq_zret C rfl (Or.inr rfl) ⟨_, rfl, hJ⟩ dL_areBestSo_454
    · have hJ := hJ.2 h43
      refine zq_aload_n (i := 0) C dL_areBestSo_362 rfl rfl ?_
      refine zq_iload_n (i := 1) C dL_areBestSo_363 rfl rfl ?_
      refine zq_iload C dL_areBestSo_364 rfl ?_
      refine zq_iload C dL_areBestSo_366 rfl ?_
      refine zq_callVi C [zi a2, zi x17, zi x15] (wB_move l _ _ _ _  hJ) ck_L_36 iv_X7_move rfl sx70 rfl rfl rfl rfl rfl rfl dL_areBestSo_368 (fun r32 M33 hJ => ?_)
      refine zq_istore (lv' := [some (zr 70), some (zi a2), some (zi a3), none, none, some (zi x5), none, none, none, none, none, some (zi x11), some (zi r32), some (zi x13), some (zi x14), some (zi x15), some (zi x16), some (zi x17)]) C dL_areBestSo_371 (Nat.le_of_ble_eq_true rfl) rfl ?_
      refine zq_iload C dL_areBestSo_373 rfl ?_
      refine zq_if_lt (tgt := 417) C dL_areBestSo_375 rfl (fun h42 => ?_) (fun h42 => ?_)
      · have hJ := hJ.1 h42
        obtain ⟨hv17_34, hJ⟩ := hJ
        refine zq_iinc (y := x17 + 1) (lv' := [some (zr 70), some (zi a2), some (zi a3), none, none, some (zi x5), none, none, none, none, none, some (zi x11), some (zi r32), some (zi x13), some (zi x14), some (zi x15), some (zi x16), some (zi (x17 + 1))]) C dL_areBestSo_417 rfl rfl hv17_34 rfl ?_
        obtain ⟨v17_34, ev17_34⟩ : ∃ z, z = x17 + 1 := ⟨_, rfl⟩
        rw [← ev17_34]
        have hJ := hJ v17_34 ev17_34
        refine zq_goto (tgt := 355) C dL_areBestSo_420 rfl ?_
        refine zq_weak [some (zr 70), some (zi a2), some (zi a3), none, none, some (zi x5), none, none, none, none, none, some (zi x11), none, some (zi x13), some (zi x14), some (zi x15), some (zi x16), some (zi v17_34)] ⟨Or.inr rfl, Or.inr rfl, Or.inr rfl, Or.inl rfl, Or.inl rfl, Or.inr rfl, Or.inl rfl, Or.inl rfl, Or.inl rfl, Or.inl rfl, Or.inl rfl, Or.inr rfl, Or.inl rfl, Or.inr rfl, Or.inr rfl, Or.inr rfl, Or.inr rfl, Or.inr rfl, trivial⟩ ?_
        exact hK355 _ hJ
      · have hJ := hJ.2 h42
        refine zq_iload C dL_areBestSo_378 rfl ?_
        refine zq_if_eq (tgt := 408) C dL_areBestSo_380 rfl (fun h41 => ?_) (fun h41 => ?_)
        · have hJ := hJ.1 h41
          refine zq_weak [some (zr 70), some (zi a2), some (zi a3), none, none, some (zi x5), none, none, none, none, none, none, none, some (zi x13), some (zi x14), some (zi x15), some (zi x16), some (zi x17)] ⟨Or.inr rfl, Or.inr rfl, Or.inr rfl, Or.inl rfl, Or.inl rfl, Or.inr rfl, Or.inl rfl, Or.inl rfl, Or.inl rfl, Or.inl rfl, Or.inl rfl, Or.inl rfl, Or.inl rfl, Or.inr rfl, Or.inr rfl, Or.inr rfl, Or.inr rfl, Or.inr rfl, trivial⟩ ?_
          exact hj408 _ _ hJ
        · have hJ := hJ.2 h41
          refine zq_iload C dL_areBestSo_383 rfl ?_
          refine zq_iload C dL_areBestSo_385 rfl ?_
          refine zq_icmp_gt (tgt := 404) C dL_areBestSo_387 rfl (fun h40 => ?_) (fun h40 => ?_)
          · have hJ := hJ.1 h40
            refine zq_weak [some (zr 70), some (zi a2), some (zi a3), none, none, some (zi x5), none, none, none, none, none, none, none, some (zi x13), some (zi x14), some (zi x15), some (zi x16), some (zi x17)] ⟨Or.inr rfl, Or.inr rfl, Or.inr rfl, Or.inl rfl, Or.inl rfl, Or.inr rfl, Or.inl rfl, Or.inl rfl, Or.inl rfl, Or.inl rfl, Or.inl rfl, Or.inl rfl, Or.inl rfl, Or.inr rfl, Or.inr rfl, Or.inr rfl, Or.inr rfl, Or.inr rfl, trivial⟩ ?_
            exact hj404 _ _ hJ
          · have hJ := hJ.2 h40
            refine zq_iload C dL_areBestSo_390 rfl ?_
            refine zq_iload C dL_areBestSo_392 rfl ?_
            refine zq_icmp_ne (tgt := 408) C dL_areBestSo_394 rfl (fun h39 => ?_) (fun h39 => ?_)
            · have hJ := hJ.1 h39
              refine zq_weak [some (zr 70), some (zi a2), some (zi a3), none, none, some (zi x5), none, none, none, none, none, none, none, some (zi x13), some (zi x14), some (zi x15), some (zi x16), some (zi x17)] ⟨Or.inr rfl, Or.inr rfl, Or.inr rfl, Or.inl rfl, Or.inl rfl, Or.inr rfl, Or.inl rfl, Or.inl rfl, Or.inl rfl, Or.inl rfl, Or.inl rfl, Or.inl rfl, Or.inl rfl, Or.inr rfl, Or.inr rfl, Or.inr rfl, Or.inr rfl, Or.inr rfl, trivial⟩ ?_
              exact hj408 _ _ hJ
            · have hJ := hJ.2 h39
              refine zq_iload C dL_areBestSo_397 rfl ?_
              refine zq_iload C dL_areBestSo_399 rfl ?_
              refine zq_icmp_lt (tgt := 408) C dL_areBestSo_401 rfl (fun h38 => ?_) (fun h38 => ?_)
              · have hJ := hJ.1 h38
                refine zq_weak [some (zr 70), some (zi a2), some (zi a3), none, none, some (zi x5), none, none, none, none, none, none, none, some (zi x13), some (zi x14), some (zi x15), some (zi x16), some (zi x17)] ⟨Or.inr rfl, Or.inr rfl, Or.inr rfl, Or.inl rfl, Or.inl rfl, Or.inr rfl, Or.inl rfl, Or.inl rfl, Or.inl rfl, Or.inl rfl, Or.inl rfl, Or.inl rfl, Or.inl rfl, Or.inr rfl, Or.inr rfl, Or.inr rfl, Or.inr rfl, Or.inr rfl, trivial⟩ ?_
                exact hj408 _ _ hJ
              · have hJ := hJ.2 h38
                refine zq_weak [some (zr 70), some (zi a2), some (zi a3), none, none, some (zi x5), none, none, none, none, none, none, none, some (zi x13), some (zi x14), some (zi x15), some (zi x16), some (zi x17)] ⟨Or.inr rfl, Or.inr rfl, Or.inr rfl, Or.inl rfl, Or.inl rfl, Or.inr rfl, Or.inl rfl, Or.inl rfl, Or.inl rfl, Or.inl rfl, Or.inl rfl, Or.inl rfl, Or.inl rfl, Or.inr rfl, Or.inr rfl, Or.inr rfl, Or.inr rfl, Or.inr rfl, trivial⟩ ?_
                exact hj404 _ _ hJ
  have hj352 : ∀ (x5 x11 x13 x14 x15 x16 : Int) (M : zM), jL_areBestSo_J352 a2 a3 Φ x5 x11 x13 x14 x15 x16 M → zG X M 352 [some (zr 70), some (zi a2), some (zi a3), none, none, some (zi x5), none, none, none, none, none, some (zi x11), none, some (zi x13), some (zi x14), some (zi x15), some (zi x16), none] [] := by
    intro x5 x11 x13 x14 x15 x16 M hJ
    unfold jL_areBestSo_J352 at hJ
    refine zq_iconst (x := 0) C dL_areBestSo_352 rfl ik_0 ?_
    refine zq_istore (lv' := [some (zr 70), some (zi a2), some (zi a3), none, none, some (zi x5), none, none, none, none, none, some (zi x11), none, some (zi x13), some (zi x14), some (zi x15), some (zi x16), some (zi 0)]) C dL_areBestSo_353 (Nat.le_of_ble_eq_true rfl) rfl ?_
    exact hl355 _ _ _ _ _ _ hJ
  have hj344 : ∀ (x5 x13 x14 x15 x16 s0 : Int) (M : zM), jL_areBestSo_J344 a2 a3 Φ x5 x13 x14 x15 x16 s0 M → zG X M 344 [some (zr 70), some (zi a2), some (zi a3), none, none, some (zi x5), none, none, none, none, none, none, none, some (zi x13), some (zi x14), some (zi x15), some (zi x16), none] [zi s0] := by
    intro x5 x13 x14 x15 x16 s0 M hJ
    unfold jL_areBestSo_J344 at hJ
    refine zq_istore (lv' := [some (zr 70), some (zi a2), some (zi a3), none, none, some (zi x5), none, none, none, none, none, some (zi s0), none, some (zi x13), some (zi x14), some (zi x15), some (zi x16), none]) C dL_areBestSo_344 (Nat.le_of_ble_eq_true rfl) rfl ?_
    refine zq_aload_n (i := 0) C dL_areBestSo_346 rfl rfl ?_
    refine zq_callVi C [] (wB_undo l _  hJ) ck_L_84 iv_X7_undo rfl sx70 rfl rfl rfl rfl rfl rfl dL_areBestSo_347 (fun r46 M47 hJ => ?_)
    refine zq_istore (lv' := [some (zr 70), some (zi a2), some (zi a3), none, none, some (zi x5), none, none, none, none, none, some (zi s0), some (zi r46), some (zi x13), some (zi x14), some (zi x15), some (zi x16), none]) C dL_areBestSo_350 (Nat.le_of_ble_eq_true rfl) rfl ?_
    refine zq_weak [some (zr 70), some (zi a2), some (zi a3), none, none, some (zi x5), none, none, none, none, none, some (zi s0), none, some (zi x13), some (zi x14), some (zi x15), some (zi x16), none] ⟨Or.inr rfl, Or.inr rfl, Or.inr rfl, Or.inl rfl, Or.inl rfl, Or.inr rfl, Or.inl rfl, Or.inl rfl, Or.inl rfl, Or.inl rfl, Or.inl rfl, Or.inr rfl, Or.inl rfl, Or.inr rfl, Or.inr rfl, Or.inr rfl, Or.inr rfl, Or.inl rfl, trivial⟩ ?_
    exact hj352 _ _ _ _ _ _ _ hJ
  have hj343 : ∀ (x5 x13 x14 x15 x16 : Int) (M : zM), jL_areBestSo_J343 a2 a3 Φ x5 x13 x14 x15 x16 M → zG X M 343 [some (zr 70), some (zi a2), some (zi a3), none, none, some (zi x5), none, none, none, none, none, none, none, some (zi x13), some (zi x14), some (zi x15), some (zi x16), none] [] := by
    intro x5 x13 x14 x15 x16 M hJ
    unfold jL_areBestSo_J343 at hJ
    refine zq_iconst (x := 0) C dL_areBestSo_343 rfl ik_0 ?_
    exact hj344 _ _ _ _ _ _ _ hJ
  have hj339 : ∀ (x5 x13 x14 x15 x16 : Int) (M : zM), jL_areBestSo_J339 a2 a3 Φ x5 x13 x14 x15 x16 M → zG X M 339 [some (zr 70), some (zi a2), some (zi a3), none, none, some (zi x5), none, none, none, none, none, none, none, some (zi x13), some (zi x14), some (zi x15), some (zi x16), none] [] := by
    intro x5 x13 x14 x15 x16 M hJ
    unfold jL_areBestSo_J339 at hJ
    refine zq_iconst (x := 1) C dL_areBestSo_339 rfl ik_1 ?_
    refine zq_goto (tgt := 344) C dL_areBestSo_340 rfl ?_
    exact hj344 _ _ _ _ _ _ _ hJ
  have hj259 : ∀ (x5 x11 : Int) (M : zM), jL_areBestSo_J259 a2 a3 Φ x5 x11 M → zG X M 259 [some (zr 70), some (zi a2), some (zi a3), none, none, some (zi x5), none, none, none, none, none, some (zi x11), none, none, none, none, none, none] [] := by
    intro x5 x11 M hJ
    unfold jL_areBestSo_J259 at hJ
    refine zq_aload_n (i := 0) C dL_areBestSo_259 rfl rfl ?_
    refine zq_iload_n (i := 1) C dL_areBestSo_260 rfl rfl ?_
    refine zq_callVi C [zi a2] (wB_bestLane l _ _  hJ) ck_L_90 iv_X7_bestLane rfl sx70 rfl rfl rfl rfl rfl rfl dL_areBestSo_261 (fun r19 M20 hJ => ?_)
    refine zq_istore (lv' := [some (zr 70), some (zi a2), some (zi a3), none, none, some (zi x5), none, none, none, none, none, some (zi x11), none, some (zi r19), none, none, none, none]) C dL_areBestSo_264 (Nat.le_of_ble_eq_true rfl) rfl ?_
    refine zq_aload_n (i := 0) C dL_areBestSo_266 rfl rfl ?_
    refine zq_iload_n (i := 1) C dL_areBestSo_267 rfl rfl ?_
    refine zq_iconst (x := 0) C dL_areBestSo_268 rfl ik_0 ?_
    refine zq_callVi C [zi a2, zi 0] (wB_barOf l _ _ _  hJ) ck_L_20 iv_X7_barOf rfl sx70 rfl rfl rfl rfl rfl rfl dL_areBestSo_269 (fun r21 M22 hJ => ?_)
    refine zq_istore (lv' := [some (zr 70), some (zi a2), some (zi a3), none, none, some (zi x5), none, none, none, none, none, some (zi x11), none, some (zi r19), some (zi r21), none, none, none]) C dL_areBestSo_272 (Nat.le_of_ble_eq_true rfl) rfl ?_
    refine zq_aload_n (i := 0) C dL_areBestSo_274 rfl rfl ?_
    refine zq_iload_n (i := 1) C dL_areBestSo_275 rfl rfl ?_
    refine zq_iconst (x := 1) C dL_areBestSo_276 rfl ik_1 ?_
    refine zq_callVi C [zi a2, zi 1] (wB_barOf l _ _ _  hJ) ck_L_20 iv_X7_barOf rfl sx70 rfl rfl rfl rfl rfl rfl dL_areBestSo_277 (fun r23 M24 hJ => ?_)
    refine zq_istore (lv' := [some (zr 70), some (zi a2), some (zi a3), none, none, some (zi x5), none, none, none, none, none, some (zi x11), none, some (zi r19), some (zi r21), some (zi r23), none, none]) C dL_areBestSo_280 (Nat.le_of_ble_eq_true rfl) rfl ?_
    refine zq_iload C dL_areBestSo_282 rfl ?_
    refine zq_istore (lv' := [some (zr 70), some (zi a2), some (zi a3), none, none, some (zi x5), none, none, none, none, none, some (zi x11), none, some (zi r19), some (zi r21), some (zi r23), some (zi x5), none]) C dL_areBestSo_284 (Nat.le_of_ble_eq_true rfl) rfl ?_
    refine zq_iload C dL_areBestSo_286 rfl ?_
    refine zq_iload C dL_areBestSo_288 rfl ?_
    refine zq_icmp_eq (tgt := 352) C dL_areBestSo_290 rfl (fun h53 => ?_) (fun h53 => ?_)
    · have hJ := hJ.1 h53
      exact hj352 _ _ _ _ _ _ _ hJ
    · have hJ := hJ.2 h53
      refine zq_aload_n (i := 0) C dL_areBestSo_293 rfl rfl ?_
      refine zq_iload_n (i := 1) C dL_areBestSo_294 rfl rfl ?_
      refine zq_iload C dL_areBestSo_295 rfl ?_
      refine zq_iload C dL_areBestSo_297 rfl ?_
      refine zq_callVi C [zi a2, zi r19, zi r23] (wB_move l _ _ _ _  hJ) ck_L_36 iv_X7_move rfl sx70 rfl rfl rfl rfl rfl rfl dL_areBestSo_299 (fun r44 M45 hJ => ?_)
      refine zq_istore (lv' := [some (zr 70), some (zi a2), some (zi a3), none, none, some (zi x5), none, none, none, none, none, some (zi x11), some (zi r44), some (zi r19), some (zi r21), some (zi r23), some (zi x5), none]) C dL_areBestSo_302 (Nat.le_of_ble_eq_true rfl) rfl ?_
      refine zq_iload C dL_areBestSo_304 rfl ?_
      refine zq_istore (lv' := [some (zr 70), some (zi a2), some (zi a3), none, none, some (zi x5), none, none, none, none, none, some (zi x11), some (zi r44), some (zi r19), some (zi r21), some (zi r23), some (zi r44), none]) C dL_areBestSo_306 (Nat.le_of_ble_eq_true rfl) rfl ?_
      refine zq_iload C dL_areBestSo_308 rfl ?_
      refine zq_if_eq (tgt := 343) C dL_areBestSo_310 rfl (fun h52 => ?_) (fun h52 => ?_)
      · have hJ := hJ.1 h52
        refine zq_weak [some (zr 70), some (zi a2), some (zi a3), none, none, some (zi x5), none, none, none, none, none, none, none, some (zi r19), some (zi r21), some (zi r23), some (zi r44), none] ⟨Or.inr rfl, Or.inr rfl, Or.inr rfl, Or.inl rfl, Or.inl rfl, Or.inr rfl, Or.inl rfl, Or.inl rfl, Or.inl rfl, Or.inl rfl, Or.inl rfl, Or.inl rfl, Or.inl rfl, Or.inr rfl, Or.inr rfl, Or.inr rfl, Or.inr rfl, Or.inl rfl, trivial⟩ ?_
        exact hj343 _ _ _ _ _ _ hJ
      · have hJ := hJ.2 h52
        refine zq_iload C dL_areBestSo_313 rfl ?_
        refine zq_if_lt (tgt := 343) C dL_areBestSo_315 rfl (fun h51 => ?_) (fun h51 => ?_)
        · have hJ := hJ.1 h51
          refine zq_weak [some (zr 70), some (zi a2), some (zi a3), none, none, some (zi x5), none, none, none, none, none, none, none, some (zi r19), some (zi r21), some (zi r23), some (zi r44), none] ⟨Or.inr rfl, Or.inr rfl, Or.inr rfl, Or.inl rfl, Or.inl rfl, Or.inr rfl, Or.inl rfl, Or.inl rfl, Or.inl rfl, Or.inl rfl, Or.inl rfl, Or.inl rfl, Or.inl rfl, Or.inr rfl, Or.inr rfl, Or.inr rfl, Or.inr rfl, Or.inl rfl, trivial⟩ ?_
          exact hj343 _ _ _ _ _ _ hJ
        · have hJ := hJ.2 h51
          refine zq_iload C dL_areBestSo_318 rfl ?_
          refine zq_iload C dL_areBestSo_320 rfl ?_
          refine zq_icmp_lt (tgt := 339) C dL_areBestSo_322 rfl (fun h50 => ?_) (fun h50 => ?_)
          · have hJ := hJ.1 h50
            refine zq_weak [some (zr 70), some (zi a2), some (zi a3), none, none, some (zi x5), none, none, none, none, none, none, none, some (zi r19), some (zi r21), some (zi r23), some (zi r44), none] ⟨Or.inr rfl, Or.inr rfl, Or.inr rfl, Or.inl rfl, Or.inl rfl, Or.inr rfl, Or.inl rfl, Or.inl rfl, Or.inl rfl, Or.inl rfl, Or.inl rfl, Or.inl rfl, Or.inl rfl, Or.inr rfl, Or.inr rfl, Or.inr rfl, Or.inr rfl, Or.inl rfl, trivial⟩ ?_
            exact hj339 _ _ _ _ _ _ hJ
          · have hJ := hJ.2 h50
            refine zq_iload C dL_areBestSo_325 rfl ?_
            refine zq_iload C dL_areBestSo_327 rfl ?_
            refine zq_icmp_ne (tgt := 343) C dL_areBestSo_329 rfl (fun h49 => ?_) (fun h49 => ?_)
            · have hJ := hJ.1 h49
              refine zq_weak [some (zr 70), some (zi a2), some (zi a3), none, none, some (zi x5), none, none, none, none, none, none, none, some (zi r19), some (zi r21), some (zi r23), some (zi r44), none] ⟨Or.inr rfl, Or.inr rfl, Or.inr rfl, Or.inl rfl, Or.inl rfl, Or.inr rfl, Or.inl rfl, Or.inl rfl, Or.inl rfl, Or.inl rfl, Or.inl rfl, Or.inl rfl, Or.inl rfl, Or.inr rfl, Or.inr rfl, Or.inr rfl, Or.inr rfl, Or.inl rfl, trivial⟩ ?_
              exact hj343 _ _ _ _ _ _ hJ
            · have hJ := hJ.2 h49
              refine zq_iload C dL_areBestSo_332 rfl ?_
              refine zq_iload C dL_areBestSo_334 rfl ?_
              refine zq_icmp_ge (tgt := 343) C dL_areBestSo_336 rfl (fun h48 => ?_) (fun h48 => ?_)
              · have hJ := hJ.1 h48
                refine zq_weak [some (zr 70), some (zi a2), some (zi a3), none, none, some (zi x5), none, none, none, none, none, none, none, some (zi r19), some (zi r21), some (zi r23), some (zi r44), none] ⟨Or.inr rfl, Or.inr rfl, Or.inr rfl, Or.inl rfl, Or.inl rfl, Or.inr rfl, Or.inl rfl, Or.inl rfl, Or.inl rfl, Or.inl rfl, Or.inl rfl, Or.inl rfl, Or.inl rfl, Or.inr rfl, Or.inr rfl, Or.inr rfl, Or.inr rfl, Or.inl rfl, trivial⟩ ?_
                exact hj343 _ _ _ _ _ _ hJ
              · have hJ := hJ.2 h48
                refine zq_weak [some (zr 70), some (zi a2), some (zi a3), none, none, some (zi x5), none, none, none, none, none, none, none, some (zi r19), some (zi r21), some (zi r23), some (zi r44), none] ⟨Or.inr rfl, Or.inr rfl, Or.inr rfl, Or.inl rfl, Or.inl rfl, Or.inr rfl, Or.inl rfl, Or.inl rfl, Or.inl rfl, Or.inl rfl, Or.inl rfl, Or.inl rfl, Or.inl rfl, Or.inr rfl, Or.inr rfl, Or.inr rfl, Or.inr rfl, Or.inl rfl, trivial⟩ ?_
                exact hj339 _ _ _ _ _ _ hJ
  have hj251 : ∀ (x5 s0 : Int) (M : zM), jL_areBestSo_J251 a2 a3 Φ x5 s0 M → zG X M 251 [some (zr 70), some (zi a2), some (zi a3), none, none, some (zi x5), none, none, none, none, none, none, none, none, none, none, none, none] [zi s0] := by
    intro x5 s0 M hJ
    unfold jL_areBestSo_J251 at hJ
    refine zq_istore (lv' := [some (zr 70), some (zi a2), some (zi a3), none, none, some (zi x5), none, none, none, none, none, some (zi s0), none, none, none, none, none, none]) C dL_areBestSo_251 (Nat.le_of_ble_eq_true rfl) rfl ?_
    refine zq_aload_n (i := 0) C dL_areBestSo_253 rfl rfl ?_
    refine zq_callVi C [] (wB_undo l _  hJ) ck_L_84 iv_X7_undo rfl sx70 rfl rfl rfl rfl rfl rfl dL_areBestSo_254 (fun r56 M57 hJ => ?_)
    refine zq_istore (lv' := [some (zr 70), some (zi a2), some (zi a3), none, none, some (zi x5), none, none, none, none, none, some (zi s0), some (zi r56), none, none, none, none, none]) C dL_areBestSo_257 (Nat.le_of_ble_eq_true rfl) rfl ?_
    refine zq_weak [some (zr 70), some (zi a2), some (zi a3), none, none, some (zi x5), none, none, none, none, none, some (zi s0), none, none, none, none, none, none] ⟨Or.inr rfl, Or.inr rfl, Or.inr rfl, Or.inl rfl, Or.inl rfl, Or.inr rfl, Or.inl rfl, Or.inl rfl, Or.inl rfl, Or.inl rfl, Or.inl rfl, Or.inr rfl, Or.inl rfl, Or.inl rfl, Or.inl rfl, Or.inl rfl, Or.inl rfl, Or.inl rfl, trivial⟩ ?_
    exact hj259 _ _ _ hJ
  have hj250 : ∀ (x5 : Int) (M : zM), jL_areBestSo_J250 a2 a3 Φ x5 M → zG X M 250 [some (zr 70), some (zi a2), some (zi a3), none, none, some (zi x5), none, none, none, none, none, none, none, none, none, none, none, none] [] := by
    intro x5 M hJ
    unfold jL_areBestSo_J250 at hJ
    refine zq_iconst (x := 0) C dL_areBestSo_250 rfl ik_0 ?_
    exact hj251 _ _ _ hJ
  have hj205 : ∀ (x3 x4 x5 x7 x8 x11 : Int) (M : zM), jL_areBestSo_J205 a2 a3 Φ x3 x4 x5 x7 x8 x11 M → zG X M 205 [some (zr 70), some (zi a2), some (zi a3), some (zi x3), some (zi x4), some (zi x5), none, some (zi x7), some (zi x8), none, none, some (zi x11), none, none, none, none, none, none] [] := by
    intro x3 x4 x5 x7 x8 x11 M hJ
    unfold jL_areBestSo_J205 at hJ
    refine zq_iload_n (i := 3) C dL_areBestSo_205 rfl rfl ?_
    refine zq_if_lt (tgt := 259) C dL_areBestSo_206 rfl (fun h64 => ?_) (fun h64 => ?_)
    · have hJ := hJ.1 h64
      refine zq_weak [some (zr 70), some (zi a2), some (zi a3), none, none, some (zi x5), none, none, none, none, none, some (zi x11), none, none, none, none, none, none] ⟨Or.inr rfl, Or.inr rfl, Or.inr rfl, Or.inl rfl, Or.inl rfl, Or.inr rfl, Or.inl rfl, Or.inl rfl, Or.inl rfl, Or.inl rfl, Or.inl rfl, Or.inr rfl, Or.inl rfl, Or.inl rfl, Or.inl rfl, Or.inl rfl, Or.inl rfl, Or.inl rfl, trivial⟩ ?_
      exact hj259 _ _ _ hJ
    · have hJ := hJ.2 h64
      refine zq_aload_n (i := 0) C dL_areBestSo_209 rfl rfl ?_
      refine zq_iload_n (i := 3) C dL_areBestSo_210 rfl rfl ?_
      refine zq_iload C dL_areBestSo_211 rfl ?_
      refine zq_callVi C [zi x3, zi x4] (wB_swap l _ _ _  hJ) ck_L_39 iv_X7_swap rfl sx70 rfl rfl rfl rfl rfl rfl dL_areBestSo_213 (fun r54 M55 hJ => ?_)
      refine zq_istore (lv' := [some (zr 70), some (zi a2), some (zi a3), some (zi x3), some (zi x4), some (zi x5), none, some (zi x7), some (zi x8), none, none, some (zi x11), some (zi r54), none, none, none, none, none]) C dL_areBestSo_216 (Nat.le_of_ble_eq_true rfl) rfl ?_
      refine zq_iload C dL_areBestSo_218 rfl ?_
      refine zq_if_eq (tgt := 250) C dL_areBestSo_220 rfl (fun h63 => ?_) (fun h63 => ?_)
      · have hJ := hJ.1 h63
        refine zq_weak [some (zr 70), some (zi a2), some (zi a3), none, none, some (zi x5), none, none, none, none, none, none, none, none, none, none, none, none] ⟨Or.inr rfl, Or.inr rfl, Or.inr rfl, Or.inl rfl, Or.inl rfl, Or.inr rfl, Or.inl rfl, Or.inl rfl, Or.inl rfl, Or.inl rfl, Or.inl rfl, Or.inl rfl, Or.inl rfl, Or.inl rfl, Or.inl rfl, Or.inl rfl, Or.inl rfl, Or.inl rfl, trivial⟩ ?_
        exact hj250 _ _ hJ
      · have hJ := hJ.2 h63
        refine zq_iload C dL_areBestSo_223 rfl ?_
        refine zq_iload C dL_areBestSo_225 rfl ?_
        refine zq_icmp_ne (tgt := 250) C dL_areBestSo_227 rfl (fun h62 => ?_) (fun h62 => ?_)
        · have hJ := hJ.1 h62
          refine zq_weak [some (zr 70), some (zi a2), some (zi a3), none, none, some (zi x5), none, none, none, none, none, none, none, none, none, none, none, none] ⟨Or.inr rfl, Or.inr rfl, Or.inr rfl, Or.inl rfl, Or.inl rfl, Or.inr rfl, Or.inl rfl, Or.inl rfl, Or.inl rfl, Or.inl rfl, Or.inl rfl, Or.inl rfl, Or.inl rfl, Or.inl rfl, Or.inl rfl, Or.inl rfl, Or.inl rfl, Or.inl rfl, trivial⟩ ?_
          exact hj250 _ _ hJ
        · have hJ := hJ.2 h62
          refine zq_aload_n (i := 0) C dL_areBestSo_230 rfl rfl ?_
          refine zq_iconst (x := 5) C dL_areBestSo_231 rfl ik_5 ?_
          refine zq_callVi C [zi 5] (wB_count l _ _  hJ) ck_L_8 iv_X7_count rfl sx70 rfl rfl rfl rfl rfl rfl dL_areBestSo_232 (fun r58 M59 hJ => ?_)
          refine zq_iload C dL_areBestSo_235 rfl ?_
          refine zq_icmp_ne (tgt := 250) C dL_areBestSo_237 rfl (fun h61 => ?_) (fun h61 => ?_)
          · have hJ := hJ.1 h61
            refine zq_weak [some (zr 70), some (zi a2), some (zi a3), none, none, some (zi x5), none, none, none, none, none, none, none, none, none, none, none, none] ⟨Or.inr rfl, Or.inr rfl, Or.inr rfl, Or.inl rfl, Or.inl rfl, Or.inr rfl, Or.inl rfl, Or.inl rfl, Or.inl rfl, Or.inl rfl, Or.inl rfl, Or.inl rfl, Or.inl rfl, Or.inl rfl, Or.inl rfl, Or.inl rfl, Or.inl rfl, Or.inl rfl, trivial⟩ ?_
            exact hj250 _ _ hJ
          · have hJ := hJ.2 h61
            refine zq_iload_n (i := 3) C dL_areBestSo_240 rfl rfl ?_
            refine zq_iload C dL_areBestSo_241 rfl ?_
            refine zq_icmp_ge (tgt := 250) C dL_areBestSo_243 rfl (fun h60 => ?_) (fun h60 => ?_)
            · have hJ := hJ.1 h60
              refine zq_weak [some (zr 70), some (zi a2), some (zi a3), none, none, some (zi x5), none, none, none, none, none, none, none, none, none, none, none, none] ⟨Or.inr rfl, Or.inr rfl, Or.inr rfl, Or.inl rfl, Or.inl rfl, Or.inr rfl, Or.inl rfl, Or.inl rfl, Or.inl rfl, Or.inl rfl, Or.inl rfl, Or.inl rfl, Or.inl rfl, Or.inl rfl, Or.inl rfl, Or.inl rfl, Or.inl rfl, Or.inl rfl, trivial⟩ ?_
              exact hj250 _ _ hJ
            · have hJ := hJ.2 h60
              refine zq_iconst (x := 1) C dL_areBestSo_246 rfl ik_1 ?_
              refine zq_goto (tgt := 251) C dL_areBestSo_247 rfl ?_
              refine zq_weak [some (zr 70), some (zi a2), some (zi a3), none, none, some (zi x5), none, none, none, none, none, none, none, none, none, none, none, none] ⟨Or.inr rfl, Or.inr rfl, Or.inr rfl, Or.inl rfl, Or.inl rfl, Or.inr rfl, Or.inl rfl, Or.inl rfl, Or.inl rfl, Or.inl rfl, Or.inl rfl, Or.inl rfl, Or.inl rfl, Or.inl rfl, Or.inl rfl, Or.inl rfl, Or.inl rfl, Or.inl rfl, trivial⟩ ?_
              exact hj251 _ _ _ hJ
  have hj191 : ∀ (x3 x4 x5 x7 x8 s0 : Int) (M : zM), jL_areBestSo_J191 a2 a3 Φ x3 x4 x5 x7 x8 s0 M → zG X M 191 [some (zr 70), some (zi a2), some (zi a3), some (zi x3), some (zi x4), some (zi x5), none, some (zi x7), some (zi x8), none, none, none, none, none, none, none, none, none] [zi s0] := by
    intro x3 x4 x5 x7 x8 s0 M hJ
    unfold jL_areBestSo_J191 at hJ
    refine zq_istore (lv' := [some (zr 70), some (zi a2), some (zi a3), some (zi x3), some (zi x4), some (zi x5), none, some (zi x7), some (zi x8), none, none, some (zi s0), none, none, none, none, none, none]) C dL_areBestSo_191 (Nat.le_of_ble_eq_true rfl) rfl ?_
    refine zq_aload_n (i := 0) C dL_areBestSo_193 rfl rfl ?_
    refine zq_callVi C [] (wB_undo l _  hJ) ck_L_84 iv_X7_undo rfl sx70 rfl rfl rfl rfl rfl rfl dL_areBestSo_194 (fun r65 M66 hJ => ?_)
    refine zq_istore (lv' := [some (zr 70), some (zi a2), some (zi a3), some (zi x3), some (zi x4), some (zi x5), none, some (zi x7), some (zi x8), none, none, some (zi s0), some (zi r65), none, none, none, none, none]) C dL_areBestSo_197 (Nat.le_of_ble_eq_true rfl) rfl ?_
    refine zq_aload_n (i := 0) C dL_areBestSo_199 rfl rfl ?_
    refine zq_callVi C [] (wB_undo l _  hJ) ck_L_84 iv_X7_undo rfl sx70 rfl rfl rfl rfl rfl rfl dL_areBestSo_200 (fun r67 M68 hJ => ?_)
    refine zq_istore (lv' := [some (zr 70), some (zi a2), some (zi a3), some (zi x3), some (zi x4), some (zi x5), none, some (zi x7), some (zi x8), none, none, some (zi s0), some (zi r67), none, none, none, none, none]) C dL_areBestSo_203 (Nat.le_of_ble_eq_true rfl) rfl ?_
    refine zq_weak [some (zr 70), some (zi a2), some (zi a3), some (zi x3), some (zi x4), some (zi x5), none, some (zi x7), some (zi x8), none, none, some (zi s0), none, none, none, none, none, none] ⟨Or.inr rfl, Or.inr rfl, Or.inr rfl, Or.inr rfl, Or.inr rfl, Or.inr rfl, Or.inl rfl, Or.inr rfl, Or.inr rfl, Or.inl rfl, Or.inl rfl, Or.inr rfl, Or.inl rfl, Or.inl rfl, Or.inl rfl, Or.inl rfl, Or.inl rfl, Or.inl rfl, trivial⟩ ?_
    exact hj205 _ _ _ _ _ _ _ hJ
  have hj190 : ∀ (x3 x4 x5 x7 x8 : Int) (M : zM), jL_areBestSo_J190 a2 a3 Φ x3 x4 x5 x7 x8 M → zG X M 190 [some (zr 70), some (zi a2), some (zi a3), some (zi x3), some (zi x4), some (zi x5), none, some (zi x7), some (zi x8), none, none, none, none, none, none, none, none, none] [] := by
    intro x3 x4 x5 x7 x8 M hJ
    unfold jL_areBestSo_J190 at hJ
    refine zq_iconst (x := 0) C dL_areBestSo_190 rfl ik_0 ?_
    exact hj191 _ _ _ _ _ _ _ hJ
  have hj163 : ∀ (x3 x4 x5 x6 x7 x8 x9 x10 : Int) (M : zM), jL_areBestSo_J163 a2 a3 Φ x3 x4 x5 x6 x7 x8 x9 x10 M → zG X M 163 [some (zr 70), some (zi a2), some (zi a3), some (zi x3), some (zi x4), some (zi x5), some (zi x6), some (zi x7), some (zi x8), some (zi x9), some (zi x10), none, none, none, none, none, none, none] [] := by
    intro x3 x4 x5 x6 x7 x8 x9 x10 M hJ
    unfold jL_areBestSo_J163 at hJ
    refine zq_aload_n (i := 0) C dL_areBestSo_163 rfl rfl ?_
    refine zq_iload C dL_areBestSo_164 rfl ?_
    refine zq_iload C dL_areBestSo_166 rfl ?_
    refine zq_callVi C [zi x10, zi x9] (wB_swap l _ _ _  hJ) ck_L_39 iv_X7_swap rfl sx70 rfl rfl rfl rfl rfl rfl dL_areBestSo_168 (fun r71 M72 hJ => ?_)
    refine zq_iload C dL_areBestSo_171 rfl ?_
    refine zq_icmp_ne (tgt := 190) C dL_areBestSo_173 rfl (fun h76 => ?_) (fun h76 => ?_)
    · have hJ := hJ.1 h76
      refine zq_weak [some (zr 70), some (zi a2), some (zi a3), some (zi x3), some (zi x4), some (zi x5), none, some (zi x7), some (zi x8), none, none, none, none, none, none, none, none, none] ⟨Or.inr rfl, Or.inr rfl, Or.inr rfl, Or.inr rfl, Or.inr rfl, Or.inr rfl, Or.inl rfl, Or.inr rfl, Or.inr rfl, Or.inl rfl, Or.inl rfl, Or.inl rfl, Or.inl rfl, Or.inl rfl, Or.inl rfl, Or.inl rfl, Or.inl rfl, Or.inl rfl, trivial⟩ ?_
      exact hj190 _ _ _ _ _ _ hJ
    · have hJ := hJ.2 h76
      refine zq_aload_n (i := 0) C dL_areBestSo_176 rfl rfl ?_
      refine zq_iconst (x := 5) C dL_areBestSo_177 rfl ik_5 ?_
      refine zq_callVi C [zi 5] (wB_count l _ _  hJ) ck_L_8 iv_X7_count rfl sx70 rfl rfl rfl rfl rfl rfl dL_areBestSo_178 (fun r73 M74 hJ => ?_)
      refine zq_iload C dL_areBestSo_181 rfl ?_
      refine zq_icmp_ne (tgt := 190) C dL_areBestSo_183 rfl (fun h75 => ?_) (fun h75 => ?_)
      · have hJ := hJ.1 h75
        refine zq_weak [some (zr 70), some (zi a2), some (zi a3), some (zi x3), some (zi x4), some (zi x5), none, some (zi x7), some (zi x8), none, none, none, none, none, none, none, none, none] ⟨Or.inr rfl, Or.inr rfl, Or.inr rfl, Or.inr rfl, Or.inr rfl, Or.inr rfl, Or.inl rfl, Or.inr rfl, Or.inr rfl, Or.inl rfl, Or.inl rfl, Or.inl rfl, Or.inl rfl, Or.inl rfl, Or.inl rfl, Or.inl rfl, Or.inl rfl, Or.inl rfl, trivial⟩ ?_
        exact hj190 _ _ _ _ _ _ hJ
      · have hJ := hJ.2 h75
        refine zq_iconst (x := 1) C dL_areBestSo_186 rfl ik_1 ?_
        refine zq_goto (tgt := 191) C dL_areBestSo_187 rfl ?_
        refine zq_weak [some (zr 70), some (zi a2), some (zi a3), some (zi x3), some (zi x4), some (zi x5), none, some (zi x7), some (zi x8), none, none, none, none, none, none, none, none, none] ⟨Or.inr rfl, Or.inr rfl, Or.inr rfl, Or.inr rfl, Or.inr rfl, Or.inr rfl, Or.inl rfl, Or.inr rfl, Or.inr rfl, Or.inl rfl, Or.inl rfl, Or.inl rfl, Or.inl rfl, Or.inl rfl, Or.inl rfl, Or.inl rfl, Or.inl rfl, Or.inl rfl, trivial⟩ ?_
        exact hj191 _ _ _ _ _ _ _ hJ
  have hj107 : ∀ (x3 x4 x5 x6 x7 x8 x9 x10 s0 : Int) (M : zM), jL_areBestSo_J107 a2 a3 Φ x3 x4 x5 x6 x7 x8 x9 x10 s0 M → zG X M 107 [some (zr 70), some (zi a2), some (zi a3), some (zi x3), some (zi x4), some (zi x5), some (zi x6), some (zi x7), some (zi x8), some (zi x9), some (zi x10), none, none, none, none, none, none, none] [zi s0] := by
    intro x3 x4 x5 x6 x7 x8 x9 x10 s0 M hJ
    unfold jL_areBestSo_J107 at hJ
    refine zq_istore (lv' := [some (zr 70), some (zi a2), some (zi a3), some (zi x3), some (zi x4), some (zi x5), some (zi x6), some (zi x7), some (zi x8), some (zi x9), some (zi x10), some (zi s0), none, none, none, none, none, none]) C dL_areBestSo_107 (Nat.le_of_ble_eq_true rfl) rfl ?_
    refine zq_aload_n (i := 0) C dL_areBestSo_109 rfl rfl ?_
    refine zq_iload C dL_areBestSo_110 rfl ?_
    refine zq_iload C dL_areBestSo_112 rfl ?_
    refine zq_callVi C [zi x9, zi x10] (wB_swap l _ _ _  hJ) ck_L_39 iv_X7_swap rfl sx70 rfl rfl rfl rfl rfl rfl dL_areBestSo_114 (fun r17 M18 hJ => ?_)
    refine zq_istore (lv' := [some (zr 70), some (zi a2), some (zi a3), some (zi x3), some (zi x4), some (zi x5), some (zi x6), some (zi x7), some (zi x8), some (zi x9), some (zi x10), some (zi s0), some (zi r17), none, none, none, none, none]) C dL_areBestSo_117 (Nat.le_of_ble_eq_true rfl) rfl ?_
    refine zq_iload C dL_areBestSo_119 rfl ?_
    refine zq_if_lt (tgt := 205) C dL_areBestSo_121 rfl (fun h84 => ?_) (fun h84 => ?_)
    · have hJ := hJ.1 h84
      refine zq_weak [some (zr 70), some (zi a2), some (zi a3), some (zi x3), some (zi x4), some (zi x5), none, some (zi x7), some (zi x8), none, none, some (zi s0), none, none, none, none, none, none] ⟨Or.inr rfl, Or.inr rfl, Or.inr rfl, Or.inr rfl, Or.inr rfl, Or.inr rfl, Or.inl rfl, Or.inr rfl, Or.inr rfl, Or.inl rfl, Or.inl rfl, Or.inr rfl, Or.inl rfl, Or.inl rfl, Or.inl rfl, Or.inl rfl, Or.inl rfl, Or.inl rfl, trivial⟩ ?_
      exact hj205 _ _ _ _ _ _ _ hJ
    · have hJ := hJ.2 h84
      refine zq_iload C dL_areBestSo_124 rfl ?_
      refine zq_if_eq (tgt := 190) C dL_areBestSo_126 rfl (fun h83 => ?_) (fun h83 => ?_)
      · have hJ := hJ.1 h83
        refine zq_weak [some (zr 70), some (zi a2), some (zi a3), some (zi x3), some (zi x4), some (zi x5), none, some (zi x7), some (zi x8), none, none, none, none, none, none, none, none, none] ⟨Or.inr rfl, Or.inr rfl, Or.inr rfl, Or.inr rfl, Or.inr rfl, Or.inr rfl, Or.inl rfl, Or.inr rfl, Or.inr rfl, Or.inl rfl, Or.inl rfl, Or.inl rfl, Or.inl rfl, Or.inl rfl, Or.inl rfl, Or.inl rfl, Or.inl rfl, Or.inl rfl, trivial⟩ ?_
        exact hj190 _ _ _ _ _ _ hJ
      · have hJ := hJ.2 h83
        refine zq_iload C dL_areBestSo_129 rfl ?_
        refine zq_aload_n (i := 0) C dL_areBestSo_131 rfl rfl ?_
        refine zq_iconst (x := 3) C dL_areBestSo_132 rfl ik_3 ?_
        refine zq_callVi C [zi 3] (wB_count l _ _  hJ) ck_L_8 iv_X7_count rfl sx70 rfl rfl rfl rfl rfl rfl dL_areBestSo_133 (fun r69 M70 hJ => ?_)
        refine zq_icmp_ne (tgt := 190) C dL_areBestSo_136 rfl (fun h82 => ?_) (fun h82 => ?_)
        · have hJ := hJ.1 h82
          refine zq_weak [some (zr 70), some (zi a2), some (zi a3), some (zi x3), some (zi x4), some (zi x5), none, some (zi x7), some (zi x8), none, none, none, none, none, none, none, none, none] ⟨Or.inr rfl, Or.inr rfl, Or.inr rfl, Or.inr rfl, Or.inr rfl, Or.inr rfl, Or.inl rfl, Or.inr rfl, Or.inr rfl, Or.inl rfl, Or.inl rfl, Or.inl rfl, Or.inl rfl, Or.inl rfl, Or.inl rfl, Or.inl rfl, Or.inl rfl, Or.inl rfl, trivial⟩ ?_
          exact hj190 _ _ _ _ _ _ hJ
        · have hJ := hJ.2 h82
          refine zq_iload C dL_areBestSo_139 rfl ?_
          refine zq_iload C dL_areBestSo_141 rfl ?_
          refine zq_icmp_gt (tgt := 163) C dL_areBestSo_143 rfl (fun h81 => ?_) (fun h81 => ?_)
          · have hJ := hJ.1 h81
            refine zq_weak [some (zr 70), some (zi a2), some (zi a3), some (zi x3), some (zi x4), some (zi x5), some (zi x6), some (zi x7), some (zi x8), some (zi x9), some (zi x10), none, none, none, none, none, none, none] ⟨Or.inr rfl, Or.inr rfl, Or.inr rfl, Or.inr rfl, Or.inr rfl, Or.inr rfl, Or.inr rfl, Or.inr rfl, Or.inr rfl, Or.inr rfl, Or.inr rfl, Or.inl rfl, Or.inl rfl, Or.inl rfl, Or.inl rfl, Or.inl rfl, Or.inl rfl, Or.inl rfl, trivial⟩ ?_
            exact hj163 _ _ _ _ _ _ _ _ _ hJ
          · have hJ := hJ.2 h81
            refine zq_iload C dL_areBestSo_146 rfl ?_
            refine zq_iload C dL_areBestSo_148 rfl ?_
            refine zq_icmp_ne (tgt := 190) C dL_areBestSo_150 rfl (fun h80 => ?_) (fun h80 => ?_)
            · have hJ := hJ.1 h80
              refine zq_weak [some (zr 70), some (zi a2), some (zi a3), some (zi x3), some (zi x4), some (zi x5), none, some (zi x7), some (zi x8), none, none, none, none, none, none, none, none, none] ⟨Or.inr rfl, Or.inr rfl, Or.inr rfl, Or.inr rfl, Or.inr rfl, Or.inr rfl, Or.inl rfl, Or.inr rfl, Or.inr rfl, Or.inl rfl, Or.inl rfl, Or.inl rfl, Or.inl rfl, Or.inl rfl, Or.inl rfl, Or.inl rfl, Or.inl rfl, Or.inl rfl, trivial⟩ ?_
              exact hj190 _ _ _ _ _ _ hJ
            · have hJ := hJ.2 h80
              refine zq_aload_n (i := 0) C dL_areBestSo_153 rfl rfl ?_
              refine zq_iconst (x := 5) C dL_areBestSo_154 rfl ik_5 ?_
              refine zq_callVi C [zi 5] (wB_count l _ _  hJ) ck_L_8 iv_X7_count rfl sx70 rfl rfl rfl rfl rfl rfl dL_areBestSo_155 (fun r77 M78 hJ => ?_)
              refine zq_iload C dL_areBestSo_158 rfl ?_
              refine zq_icmp_lt (tgt := 190) C dL_areBestSo_160 rfl (fun h79 => ?_) (fun h79 => ?_)
              · have hJ := hJ.1 h79
                refine zq_weak [some (zr 70), some (zi a2), some (zi a3), some (zi x3), some (zi x4), some (zi x5), none, some (zi x7), some (zi x8), none, none, none, none, none, none, none, none, none] ⟨Or.inr rfl, Or.inr rfl, Or.inr rfl, Or.inr rfl, Or.inr rfl, Or.inr rfl, Or.inl rfl, Or.inr rfl, Or.inr rfl, Or.inl rfl, Or.inl rfl, Or.inl rfl, Or.inl rfl, Or.inl rfl, Or.inl rfl, Or.inl rfl, Or.inl rfl, Or.inl rfl, trivial⟩ ?_
                exact hj190 _ _ _ _ _ _ hJ
              · have hJ := hJ.2 h79
                refine zq_weak [some (zr 70), some (zi a2), some (zi a3), some (zi x3), some (zi x4), some (zi x5), some (zi x6), some (zi x7), some (zi x8), some (zi x9), some (zi x10), none, none, none, none, none, none, none] ⟨Or.inr rfl, Or.inr rfl, Or.inr rfl, Or.inr rfl, Or.inr rfl, Or.inr rfl, Or.inr rfl, Or.inr rfl, Or.inr rfl, Or.inr rfl, Or.inr rfl, Or.inl rfl, Or.inl rfl, Or.inl rfl, Or.inl rfl, Or.inl rfl, Or.inl rfl, Or.inl rfl, trivial⟩ ?_
                exact hj163 _ _ _ _ _ _ _ _ _ hJ
  have hj102 : ∀ (x3 x4 x5 x6 x7 x8 x9 x10 : Int) (M : zM), jL_areBestSo_J102 a2 a3 Φ x3 x4 x5 x6 x7 x8 x9 x10 M → zG X M 102 [some (zr 70), some (zi a2), some (zi a3), some (zi x3), some (zi x4), some (zi x5), some (zi x6), some (zi x7), some (zi x8), some (zi x9), some (zi x10), none, none, none, none, none, none, none] [] := by
    intro x3 x4 x5 x6 x7 x8 x9 x10 M hJ
    unfold jL_areBestSo_J102 at hJ
    refine zq_iconst (x := 1) C dL_areBestSo_102 rfl ik_1 ?_
    refine zq_goto (tgt := 107) C dL_areBestSo_103 rfl ?_
    exact hj107 _ _ _ _ _ _ _ _ _ _ hJ
  have hj106 : ∀ (x3 x4 x5 x6 x7 x8 x9 x10 : Int) (M : zM), jL_areBestSo_J106 a2 a3 Φ x3 x4 x5 x6 x7 x8 x9 x10 M → zG X M 106 [some (zr 70), some (zi a2), some (zi a3), some (zi x3), some (zi x4), some (zi x5), some (zi x6), some (zi x7), some (zi x8), some (zi x9), some (zi x10), none, none, none, none, none, none, none] [] := by
    intro x3 x4 x5 x6 x7 x8 x9 x10 M hJ
    unfold jL_areBestSo_J106 at hJ
    refine zq_iconst (x := 0) C dL_areBestSo_106 rfl ik_0 ?_
    exact hj107 _ _ _ _ _ _ _ _ _ _ hJ
  have hj57 : ∀ (x3 x4 x5 x6 x7 s0 : Int) (M : zM), jL_areBestSo_J57 a2 a3 Φ x3 x4 x5 x6 x7 s0 M → zG X M 57 [some (zr 70), some (zi a2), some (zi a3), some (zi x3), some (zi x4), some (zi x5), some (zi x6), some (zi x7), none, none, none, none, none, none, none, none, none, none] [zi s0] := by
    intro x3 x4 x5 x6 x7 s0 M hJ
    unfold jL_areBestSo_J57 at hJ
    refine zq_istore (lv' := [some (zr 70), some (zi a2), some (zi a3), some (zi x3), some (zi x4), some (zi x5), some (zi x6), some (zi x7), some (zi s0), none, none, none, none, none, none, none, none, none]) C dL_areBestSo_57 (Nat.le_of_ble_eq_true rfl) rfl ?_
    refine zq_iload_n (i := 2) C dL_areBestSo_59 rfl rfl ?_
    refine zq_bipush (x := 6) C dL_areBestSo_60 bi_6 ik_6 ?_
    refine zq_callSi C [zi a3, zi 6] (wL_low l _ _ _  hJ) ck_L_14 st_L_low rfl rfl rfl rfl rfl rfl dL_areBestSo_62 (fun r13 N14 hN14 => ?_)
    obtain ⟨rfl, hJ⟩ := hN14
    refine zq_istore (lv' := [some (zr 70), some (zi a2), some (zi a3), some (zi x3), some (zi x4), some (zi x5), some (zi x6), some (zi x7), some (zi s0), some (zi r13), none, none, none, none, none, none, none, none]) C dL_areBestSo_65 (Nat.le_of_ble_eq_true rfl) rfl ?_
    refine zq_iload_n (i := 2) C dL_areBestSo_67 rfl rfl ?_
    refine zq_iconst (x := 3) C dL_areBestSo_68 rfl ik_3 ?_
    refine zq_ishr C dL_areBestSo_69 ?_
    refine zq_bipush (x := 6) C dL_areBestSo_70 bi_6 ik_6 ?_
    refine zq_callSi C [zi (zshr a3 3), zi 6] (wL_low l _ _ _  hJ) ck_L_14 st_L_low rfl rfl rfl rfl rfl rfl dL_areBestSo_72 (fun r15 N16 hN16 => ?_)
    obtain ⟨rfl, hJ⟩ := hN16
    refine zq_istore (lv' := [some (zr 70), some (zi a2), some (zi a3), some (zi x3), some (zi x4), some (zi x5), some (zi x6), some (zi x7), some (zi s0), some (zi r13), some (zi r15), none, none, none, none, none, none, none]) C dL_areBestSo_75 (Nat.le_of_ble_eq_true rfl) rfl ?_
    refine zq_iload_n (i := 3) C dL_areBestSo_77 rfl rfl ?_
    refine zq_if_lt (tgt := 102) C dL_areBestSo_78 rfl (fun h88 => ?_) (fun h88 => ?_)
    · have hJ := hJ.1 h88
      exact hj102 _ _ _ _ _ _ _ _ _ hJ
    · have hJ := hJ.2 h88
      refine zq_iload C dL_areBestSo_81 rfl ?_
      refine zq_iload C dL_areBestSo_83 rfl ?_
      refine zq_icmp_lt (tgt := 102) C dL_areBestSo_85 rfl (fun h87 => ?_) (fun h87 => ?_)
      · have hJ := hJ.1 h87
        exact hj102 _ _ _ _ _ _ _ _ _ hJ
      · have hJ := hJ.2 h87
        refine zq_iload C dL_areBestSo_88 rfl ?_
        refine zq_iload C dL_areBestSo_90 rfl ?_
        refine zq_icmp_ne (tgt := 106) C dL_areBestSo_92 rfl (fun h86 => ?_) (fun h86 => ?_)
        · have hJ := hJ.1 h86
          exact hj106 _ _ _ _ _ _ _ _ _ hJ
        · have hJ := hJ.2 h86
          refine zq_iload C dL_areBestSo_95 rfl ?_
          refine zq_iload C dL_areBestSo_97 rfl ?_
          refine zq_icmp_ge (tgt := 106) C dL_areBestSo_99 rfl (fun h85 => ?_) (fun h85 => ?_)
          · have hJ := hJ.1 h85
            exact hj106 _ _ _ _ _ _ _ _ _ hJ
          · have hJ := hJ.2 h85
            exact hj102 _ _ _ _ _ _ _ _ _ hJ
  have hj41 : ∀ (x3 x4 x5 x6 s0 : Int) (M : zM), jL_areBestSo_J41 a2 a3 Φ x3 x4 x5 x6 s0 M → zG X M 41 [some (zr 70), some (zi a2), some (zi a3), some (zi x3), some (zi x4), some (zi x5), some (zi x6), none, none, none, none, none, none, none, none, none, none, none] [zi s0] := by
    intro x3 x4 x5 x6 s0 M hJ
    unfold jL_areBestSo_J41 at hJ
    refine zq_istore (lv' := [some (zr 70), some (zi a2), some (zi a3), some (zi x3), some (zi x4), some (zi x5), some (zi x6), some (zi s0), none, none, none, none, none, none, none, none, none, none]) C dL_areBestSo_41 (Nat.le_of_ble_eq_true rfl) rfl ?_
    refine zq_iload_n (i := 3) C dL_areBestSo_43 rfl rfl ?_
    refine zq_if_ge (tgt := 52) C dL_areBestSo_44 rfl (fun h89 => ?_) (fun h89 => ?_)
    · have hJ := hJ.1 h89
      refine zq_aload_n (i := 0) C dL_areBestSo_52 rfl rfl ?_
      refine zq_iconst (x := 3) C dL_areBestSo_53 rfl ik_3 ?_
      refine zq_callVi C [zi 3] (wB_bestSwap l _ _  hJ) ck_L_87 iv_X7_bestSwap rfl sx70 rfl rfl rfl rfl rfl rfl dL_areBestSo_54 (fun r11 M12 hJ => ?_)
      exact hj57 _ _ _ _ _ _ _ hJ
    · have hJ := hJ.2 h89
      refine zq_iload C dL_areBestSo_47 rfl ?_
      refine zq_goto (tgt := 57) C dL_areBestSo_49 rfl ?_
      exact hj57 _ _ _ _ _ _ _ hJ
  refine zq_aload_n (i := 0) C dL_areBestSo_0 rfl rfl ?_
  refine zq_iconst (x := 0) C dL_areBestSo_1 rfl ik_0 ?_
  refine zq_callVi C [zi 0] (wB_bestSwap l _ _  hJ) ck_L_87 iv_X7_bestSwap rfl sx70 rfl rfl rfl rfl rfl rfl dL_areBestSo_2 (fun r1 M2 hJ => ?_)
  refine zq_istore_n (i := 3) (lv' := [some (zr 70), some (zi a2), some (zi a3), some (zi r1), none, none, none, none, none, none, none, none, none, none, none, none, none, none]) C dL_areBestSo_5 rfl (Nat.le_of_ble_eq_true rfl) rfl ?_
  refine zq_aload_n (i := 0) C dL_areBestSo_6 rfl rfl ?_
  refine zq_iconst (x := 1) C dL_areBestSo_7 rfl ik_1 ?_
  refine zq_callVi C [zi 1] (wB_bestSwap l _ _  hJ) ck_L_87 iv_X7_bestSwap rfl sx70 rfl rfl rfl rfl rfl rfl dL_areBestSo_8 (fun r3 M4 hJ => ?_)
  refine zq_istore (lv' := [some (zr 70), some (zi a2), some (zi a3), some (zi r1), some (zi r3), none, none, none, none, none, none, none, none, none, none, none, none, none]) C dL_areBestSo_11 (Nat.le_of_ble_eq_true rfl) rfl ?_
  refine zq_aload_n (i := 0) C dL_areBestSo_13 rfl rfl ?_
  refine zq_iconst (x := 3) C dL_areBestSo_14 rfl ik_3 ?_
  refine zq_callVi C [zi 3] (wB_count l _ _  hJ) ck_L_8 iv_X7_count rfl sx70 rfl rfl rfl rfl rfl rfl dL_areBestSo_15 (fun r5 M6 hJ => ?_)
  refine zq_istore (lv' := [some (zr 70), some (zi a2), some (zi a3), some (zi r1), some (zi r3), some (zi r5), none, none, none, none, none, none, none, none, none, none, none, none]) C dL_areBestSo_18 (Nat.le_of_ble_eq_true rfl) rfl ?_
  refine zq_aload_n (i := 0) C dL_areBestSo_20 rfl rfl ?_
  refine zq_iconst (x := 5) C dL_areBestSo_21 rfl ik_5 ?_
  refine zq_callVi C [zi 5] (wB_count l _ _  hJ) ck_L_8 iv_X7_count rfl sx70 rfl rfl rfl rfl rfl rfl dL_areBestSo_22 (fun r7 M8 hJ => ?_)
  refine zq_istore (lv' := [some (zr 70), some (zi a2), some (zi a3), some (zi r1), some (zi r3), some (zi r5), some (zi r7), none, none, none, none, none, none, none, none, none, none, none]) C dL_areBestSo_25 (Nat.le_of_ble_eq_true rfl) rfl ?_
  refine zq_iload_n (i := 3) C dL_areBestSo_27 rfl rfl ?_
  refine zq_if_ge (tgt := 36) C dL_areBestSo_28 rfl (fun h90 => ?_) (fun h90 => ?_)
  · have hJ := hJ.1 h90
    refine zq_aload_n (i := 0) C dL_areBestSo_36 rfl rfl ?_
    refine zq_iconst (x := 2) C dL_areBestSo_37 rfl ik_2 ?_
    refine zq_callVi C [zi 2] (wB_bestSwap l _ _  hJ) ck_L_87 iv_X7_bestSwap rfl sx70 rfl rfl rfl rfl rfl rfl dL_areBestSo_38 (fun r9 M10 hJ => ?_)
    exact hj41 _ _ _ _ _ _ hJ
  · have hJ := hJ.2 h90
    refine zq_iload C dL_areBestSo_31 rfl ?_
    refine zq_goto (tgt := 41) C dL_areBestSo_33 rfl ?_
    exact hj41 _ _ _ _ _ _ hJ
