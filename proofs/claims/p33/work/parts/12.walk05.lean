set_option maxRecDepth 100000 in
set_option maxHeartbeats 4000000 in
theorem wD_pointsInAll (l : Launch) {c1 : Nat} (hc1 : zCh c1)  (M : zM) {Φ : Int → Prop} (hJ : jD_pointsInAll c1 M Φ) : zMet l yX2_pointsInAll cX2_pointsInAll 5 (some .int) 4 94 shX [zr 82, zr c1] M (zI (fun z M' => M = M' ∧ Φ z)) := by
  refine zq_enter [some (zr 82), some (zr c1), none, none, none] (by decide) rfl (Nat.le_of_ble_eq_true rfl) rfl (fun X C => ?_)
  unfold jD_pointsInAll at hJ
  have hl4 : ∀ (s : Int × Int), zwh (fun K s => jD_pointsInAll_L4 c1 K Φ M (s.1) (s.2)) s → zG X M 4 [some (zr 82), some (zr c1), some (zi (s.1)), some (zi (s.2)), none] [] := by
    refine zwh_sound ?_
    intro K4 s hK4 hJ
    obtain ⟨x2, x3⟩ := s
    have hJ : jD_pointsInAll_L4 c1 K4 Φ M x2 x3 := hJ
    show zG X M 4 [some (zr 82), some (zr c1), some (zi x2), some (zi x3), none] []
    unfold jD_pointsInAll_L4 at hJ
    have hl15 : ∀ (x3 : Int) (s : Int × Int), zwh (fun K s => jD_pointsInAll_L15 c1 K4 K Φ x3 M (s.1) (s.2)) s → zG X M 15 [some (zr 82), some (zr c1), some (zi (s.1)), some (zi x3), some (zi (s.2))] [] := by
      intro x3
      refine zwh_sound ?_
      intro K15 s hK15 hJ
      obtain ⟨x2, x4⟩ := s
      have hJ : jD_pointsInAll_L15 c1 K4 K15 Φ x3 M x2 x4 := hJ
      show zG X M 15 [some (zr 82), some (zr c1), some (zi x2), some (zi x3), some (zi x4)] []
      unfold jD_pointsInAll_L15 at hJ
      refine zq_iload C dX2_pointsInAll_15 rfl ?_
      refine zq_aload_n (i := 1) C dX2_pointsInAll_17 rfl rfl ?_
      refine zq_get (kz := 6) C fk_X2_53 (zs0 hc1) rfl dX2_pointsInAll_18 rfl ?_
      refine zq_icmp_ge (tgt := 49) C dX2_pointsInAll_21 rfl (fun h11 => ?_) (fun h11 => ?_)
      · have hJ := hJ.1 h11
        obtain ⟨hv3_1, hJ⟩ := hJ
        refine zq_iinc (y := x3 + 1) (lv' := [some (zr 82), some (zr c1), some (zi x2), some (zi (x3 + 1)), some (zi x4)]) C dX2_pointsInAll_49 rfl rfl hv3_1 rfl ?_
        obtain ⟨v3_1, ev3_1⟩ : ∃ z, z = x3 + 1 := ⟨_, rfl⟩
        rw [← ev3_1]
        have hJ := hJ v3_1 ev3_1
        refine zq_goto (tgt := 4) C dX2_pointsInAll_52 rfl ?_
        refine zq_weak [some (zr 82), some (zr c1), some (zi x2), some (zi v3_1), none] ⟨Or.inr rfl, Or.inr rfl, Or.inr rfl, Or.inr rfl, Or.inl rfl, trivial⟩ ?_
        exact hK4 _ hJ
      · have hJ := hJ.2 h11
        refine zq_iload_n (i := 2) C dX2_pointsInAll_24 rfl rfl ?_
        refine zq_aload_n (i := 0) C dX2_pointsInAll_25 rfl rfl ?_
        refine zq_aload_n (i := 1) C dX2_pointsInAll_26 rfl rfl ?_
        refine zq_iload_n (i := 3) C dX2_pointsInAll_27 rfl rfl ?_
        refine zq_iload C dX2_pointsInAll_28 rfl ?_
        refine zq_callVi C [zr c1, zi x3, zi x4] (wD_crosses l hc1 _ _ _  hJ) ck_X2_84 iv_X2_crosses rfl sx82 rfl rfl rfl rfl rfl rfl dX2_pointsInAll_30 (fun r2 N3 hN3 => ?_)
        obtain ⟨rfl, hJ⟩ := hN3
        refine zq_if_eq (tgt := 40) C dX2_pointsInAll_33 rfl (fun h10 => ?_) (fun h10 => ?_)
        · have hJ := hJ.1 h10
          refine zq_iconst (x := 0) C dX2_pointsInAll_40 rfl ik_0 ?_
          obtain ⟨h4, hJ⟩ := hJ
          refine zq_iadd C dX2_pointsInAll_41 h4 ?_
          refine zq_istoreN_n (i := 2) C (fun v => [some (zr 82), some (zr c1), some (zi v), some (zi x3), some (zi x4)]) dX2_pointsInAll_42 rfl (Nat.le_of_ble_eq_true rfl) (fun _ => rfl) (fun v2_5 hv2_5 => ?_)
          have hJ := hJ v2_5 hv2_5
          obtain ⟨hv4_6, hJ⟩ := hJ
          refine zq_iinc (y := x4 + 1) (lv' := [some (zr 82), some (zr c1), some (zi v2_5), some (zi x3), some (zi (x4 + 1))]) C dX2_pointsInAll_43 rfl rfl hv4_6 rfl ?_
          obtain ⟨v4_6, ev4_6⟩ : ∃ z, z = x4 + 1 := ⟨_, rfl⟩
          rw [← ev4_6]
          have hJ := hJ v4_6 ev4_6
          refine zq_goto (tgt := 15) C dX2_pointsInAll_46 rfl ?_
          exact hK15 _ hJ
        · have hJ := hJ.2 h10
          refine zq_iconst (x := 1) C dX2_pointsInAll_36 rfl ik_1 ?_
          refine zq_goto (tgt := 41) C dX2_pointsInAll_37 rfl ?_
          obtain ⟨h7, hJ⟩ := hJ
          refine zq_iadd C dX2_pointsInAll_41 h7 ?_
          refine zq_istoreN_n (i := 2) C (fun v => [some (zr 82), some (zr c1), some (zi v), some (zi x3), some (zi x4)]) dX2_pointsInAll_42 rfl (Nat.le_of_ble_eq_true rfl) (fun _ => rfl) (fun v2_8 hv2_8 => ?_)
          have hJ := hJ v2_8 hv2_8
          obtain ⟨hv4_9, hJ⟩ := hJ
          refine zq_iinc (y := x4 + 1) (lv' := [some (zr 82), some (zr c1), some (zi v2_8), some (zi x3), some (zi (x4 + 1))]) C dX2_pointsInAll_43 rfl rfl hv4_9 rfl ?_
          obtain ⟨v4_9, ev4_9⟩ : ∃ z, z = x4 + 1 := ⟨_, rfl⟩
          rw [← ev4_9]
          have hJ := hJ v4_9 ev4_9
          refine zq_goto (tgt := 15) C dX2_pointsInAll_46 rfl ?_
          exact hK15 _ hJ
    refine zq_iload_n (i := 3) C dX2_pointsInAll_4 rfl rfl ?_
    refine zq_aload_n (i := 1) C dX2_pointsInAll_5 rfl rfl ?_
    refine zq_get (kz := 6) C fk_X2_53 (zs0 hc1) rfl dX2_pointsInAll_6 rfl ?_
    refine zq_icmp_ge (tgt := 55) C dX2_pointsInAll_9 rfl (fun h12 => ?_) (fun h12 => ?_)
    · have hJ := hJ.1 h12
      refine zq_iload_n (i := 2) C dX2_pointsInAll_55 rfl rfl ?_
      exact zq_iret C rfl ⟨_, rfl, rfl, hJ⟩ dX2_pointsInAll_56
    · have hJ := hJ.2 h12
      refine zq_iconst (x := 0) C dX2_pointsInAll_12 rfl ik_0 ?_
      refine zq_istore (lv' := [some (zr 82), some (zr c1), some (zi x2), some (zi x3), some (zi 0)]) C dX2_pointsInAll_13 (Nat.le_of_ble_eq_true rfl) rfl ?_
      exact hl15 _ _ hJ
  refine zq_iconst (x := 0) C dX2_pointsInAll_0 rfl ik_0 ?_
  refine zq_istore_n (i := 2) (lv' := [some (zr 82), some (zr c1), some (zi 0), none, none]) C dX2_pointsInAll_1 rfl (Nat.le_of_ble_eq_true rfl) rfl ?_
  refine zq_iconst (x := 0) C dX2_pointsInAll_2 rfl ik_0 ?_
  refine zq_istore_n (i := 3) (lv' := [some (zr 82), some (zr c1), some (zi 0), some (zi 0), none]) C dX2_pointsInAll_3 rfl (Nat.le_of_ble_eq_true rfl) rfl ?_
  exact hl4 _ hJ
set_option maxRecDepth 100000 in
set_option maxHeartbeats 4000000 in
theorem wB_crossingPoints (l : Launch)  (M : zM) {Φ : Int → zM → Prop} (hJ : jB_crossingPoints  M Φ) : zMet l yX7_crossingPoints cX7_crossingPoints 1 (some .int) 5 118 shX [zr 70] M (zI Φ) := by
  refine zq_enter [some (zr 70)] (by decide) rfl (Nat.le_of_ble_eq_true rfl) rfl (fun X C => ?_)
  unfold jB_crossingPoints at hJ
  refine zq_aload_n (i := 0) C dX7_crossingPoints_0 rfl rfl ?_
  refine zq_getr C fk_X7_46 sx70 rfl dX7_crossingPoints_1 ?_
  refine zq_aload_n (i := 0) C dX7_crossingPoints_4 rfl rfl ?_
  refine zq_getr C fk_X7_10 sx70 rfl dX7_crossingPoints_5 ?_
  refine zq_callVv C [zr 0] (wD_draw l zch0 _  hJ) ck_X7_131 iv_X2_draw rfl sx82 rfl rfl rfl rfl rfl rfl dX7_crossingPoints_8 (fun M1 hJ => ?_)
  refine zq_aload_n (i := 0) C dX7_crossingPoints_11 rfl rfl ?_
  refine zq_getr C fk_X7_46 sx70 rfl dX7_crossingPoints_12 ?_
  refine zq_aload_n (i := 0) C dX7_crossingPoints_15 rfl rfl ?_
  refine zq_getr C fk_X7_10 sx70 rfl dX7_crossingPoints_16 ?_
  refine zq_callVi C [zr 0] (wD_pointsInAll l zch0 _  hJ) ck_X7_330 iv_X2_pointsInAll rfl sx82 rfl rfl rfl rfl rfl rfl dX7_crossingPoints_19 (fun r2 N3 hN3 => ?_)
  obtain ⟨rfl, hJ⟩ := hN3
  exact zq_iret C rfl ⟨_, rfl, hJ⟩ dX7_crossingPoints_22
set_option maxRecDepth 100000 in
set_option maxHeartbeats 4000000 in
theorem wB_stripsInAll (l : Launch)  (M : zM) {Φ : Int → zM → Prop} (hJ : jB_stripsInAll  M Φ) : zMet l yX7_stripsInAll cX7_stripsInAll 1 (some .int) 3 67 shX [zr 70] M (zI Φ) := by
  refine zq_enter [some (zr 70)] (by decide) rfl (Nat.le_of_ble_eq_true rfl) rfl (fun X C => ?_)
  unfold jB_stripsInAll at hJ
  refine zq_aload_n (i := 0) C dX7_stripsInAll_0 rfl rfl ?_
  refine zq_getr C fk_X7_53 sx70 rfl dX7_stripsInAll_1 ?_
  refine zq_aload_n (i := 0) C dX7_stripsInAll_4 rfl rfl ?_
  refine zq_getr C fk_X7_10 sx70 rfl dX7_stripsInAll_5 ?_
  refine zq_callVv C [zr 0] (wK_cut l zch0 _  hJ) ck_X7_244 iv_X1_cut rfl sx85 rfl rfl rfl rfl rfl rfl dX7_stripsInAll_8 (fun M1 hJ => ?_)
  refine zq_aload_n (i := 0) C dX7_stripsInAll_11 rfl rfl ?_
  refine zq_getr C fk_X7_53 sx70 rfl dX7_stripsInAll_12 ?_
  refine zq_get (kz := 0) C fk_X7_247 sx85 rfl dX7_stripsInAll_15 rfl ?_
  exact zq_iret C rfl ⟨_, rfl, hJ⟩ dX7_stripsInAll_18
set_option maxRecDepth 100000 in
set_option maxHeartbeats 4000000 in
theorem wB_criticalBars (l : Launch)  (M : zM) {Φ : Int → zM → Prop} (hJ : jB_criticalBars  M Φ) : zMet l yX7_criticalBars cX7_criticalBars 3 (some .int) 3 70 shX [zr 70] M (zI Φ) := by
  refine zq_enter [some (zr 70), none, none] (by decide) rfl (Nat.le_of_ble_eq_true rfl) rfl (fun X C => ?_)
  unfold jB_criticalBars at hJ
  have hl26 : ∀ (M : zM) (s : Int × Int), zwh (fun K s => jB_criticalBars_L26  K Φ M (s.1) (s.2)) s → zG X M 26 [some (zr 70), some (zi (s.1)), some (zi (s.2))] [] := by
    intro M
    refine zwh_sound ?_
    intro K26 s hK26 hJ
    obtain ⟨x1, x2⟩ := s
    have hJ : jB_criticalBars_L26  K26 Φ M x1 x2 := hJ
    show zG X M 26 [some (zr 70), some (zi x1), some (zi x2)] []
    unfold jB_criticalBars_L26 at hJ
    refine zq_iload_n (i := 2) C dX7_criticalBars_26 rfl rfl ?_
    refine zq_aload_n (i := 0) C dX7_criticalBars_27 rfl rfl ?_
    refine zq_getr C fk_X7_10 sx70 rfl dX7_criticalBars_28 ?_
    refine zq_get (kz := 0) C fk_X7_196 sx0 rfl dX7_criticalBars_31 rfl ?_
    refine zq_icmp_ge (tgt := 67) C dX7_criticalBars_34 rfl (fun h9 => ?_) (fun h9 => ?_)
    · have hJ := hJ.1 h9
      refine zq_iload_n (i := 1) C dX7_criticalBars_67 rfl rfl ?_
      exact zq_iret C rfl ⟨_, rfl, hJ⟩ dX7_criticalBars_68
    · have hJ := hJ.2 h9
      refine zq_aload_n (i := 0) C dX7_criticalBars_37 rfl rfl ?_
      refine zq_getr C fk_X7_39 sx70 rfl dX7_criticalBars_38 ?_
      refine zq_getr C fk_X7_161 sx78 rfl dX7_criticalBars_41 ?_
      refine zq_iload_n (i := 2) C dX7_criticalBars_44 rfl rfl ?_
      obtain ⟨h3, h3', hJ⟩ := hJ
      refine zq_iald C sx81 h3 h3' dX7_criticalBars_45 ?_
      refine zq_aload_n (i := 0) C dX7_criticalBars_46 rfl rfl ?_
      refine zq_getr C fk_X7_10 sx70 rfl dX7_criticalBars_47 ?_
      refine zq_getr C fk_X7_124 sx0 rfl dX7_criticalBars_50 ?_
      refine zq_iload_n (i := 2) C dX7_criticalBars_53 rfl rfl ?_
      obtain ⟨h4, h4', hJ⟩ := hJ
      refine zq_iald C sx3 h4 h4' dX7_criticalBars_54 ?_
      refine zq_icmp_ne (tgt := 61) C dX7_criticalBars_55 rfl (fun h8 => ?_) (fun h8 => ?_)
      · have hJ := hJ.1 h8
        obtain ⟨hv2_5, hJ⟩ := hJ
        refine zq_iinc (y := x2 + 1) (lv' := [some (zr 70), some (zi x1), some (zi (x2 + 1))]) C dX7_criticalBars_61 rfl rfl hv2_5 rfl ?_
        obtain ⟨v2_5, ev2_5⟩ : ∃ z, z = x2 + 1 := ⟨_, rfl⟩
        rw [← ev2_5]
        have hJ := hJ v2_5 ev2_5
        refine zq_goto (tgt := 26) C dX7_criticalBars_64 rfl ?_
        exact hK26 _ hJ
      · have hJ := hJ.2 h8
        obtain ⟨hv1_6, hJ⟩ := hJ
        refine zq_iinc (y := x1 + 1) (lv' := [some (zr 70), some (zi (x1 + 1)), some (zi x2)]) C dX7_criticalBars_58 rfl rfl hv1_6 rfl ?_
        obtain ⟨v1_6, ev1_6⟩ : ∃ z, z = x1 + 1 := ⟨_, rfl⟩
        rw [← ev1_6]
        have hJ := hJ v1_6 ev1_6
        obtain ⟨hv2_7, hJ⟩ := hJ
        refine zq_iinc (y := x2 + 1) (lv' := [some (zr 70), some (zi v1_6), some (zi (x2 + 1))]) C dX7_criticalBars_61 rfl rfl hv2_7 rfl ?_
        obtain ⟨v2_7, ev2_7⟩ : ∃ z, z = x2 + 1 := ⟨_, rfl⟩
        rw [← ev2_7]
        have hJ := hJ v2_7 ev2_7
        refine zq_goto (tgt := 26) C dX7_criticalBars_64 rfl ?_
        exact hK26 _ hJ
  refine zq_aload_n (i := 0) C dX7_criticalBars_0 rfl rfl ?_
  refine zq_getr C fk_X7_39 sx70 rfl dX7_criticalBars_1 ?_
  refine zq_aload_n (i := 0) C dX7_criticalBars_4 rfl rfl ?_
  refine zq_getr C fk_X7_10 sx70 rfl dX7_criticalBars_5 ?_
  refine zq_callVv C [zr 0] (wP_read l zch0 _  hJ) ck_X7_154 iv_X5_read rfl sx78 rfl rfl rfl rfl rfl rfl dX7_criticalBars_8 (fun M1 hJ => ?_)
  refine zq_aload_n (i := 0) C dX7_criticalBars_11 rfl rfl ?_
  refine zq_getr C fk_X7_39 sx70 rfl dX7_criticalBars_12 ?_
  refine zq_aload_n (i := 0) C dX7_criticalBars_15 rfl rfl ?_
  refine zq_getr C fk_X7_10 sx70 rfl dX7_criticalBars_16 ?_
  refine zq_callVv C [zr 0] (wP_findLatest l zch0 _  hJ) ck_X7_327 iv_X5_findLatest rfl sx78 rfl rfl rfl rfl rfl rfl dX7_criticalBars_19 (fun M2 hJ => ?_)
  refine zq_iconst (x := 0) C dX7_criticalBars_22 rfl ik_0 ?_
  refine zq_istore_n (i := 1) (lv' := [some (zr 70), some (zi 0), none]) C dX7_criticalBars_23 rfl (Nat.le_of_ble_eq_true rfl) rfl ?_
  refine zq_iconst (x := 0) C dX7_criticalBars_24 rfl ik_0 ?_
  refine zq_istore_n (i := 2) (lv' := [some (zr 70), some (zi 0), some (zi 0)]) C dX7_criticalBars_25 rfl (Nat.le_of_ble_eq_true rfl) rfl ?_
  exact hl26 _ _ hJ
set_option maxRecDepth 100000 in
set_option maxHeartbeats 4000000 in
theorem wB_count (l : Launch) (a1 : Int) (M : zM) {Φ : Int → zM → Prop} (hJ : jB_count a1 M Φ) : zMet l yX7_count cX7_count 2 (some .int) 6 138 shX [zr 70, zi a1] M (zI Φ) := by
  refine zq_enter [some (zr 70), some (zi a1)] (by decide) rfl (Nat.le_of_ble_eq_true rfl) rfl (fun X C => ?_)
  unfold jB_count at hJ
  refine zq_iload_n (i := 1) C dX7_count_0 rfl rfl ?_
  by_cases g0 : a1 = 0
  · have hJ := hJ.1 g0
    refine zq_tabIn (tgt := 84) C dX7_count_1 (by rw [g0]; decide) (by rw [g0]; decide) (by rw [g0]; rfl) rfl ?_
    refine zq_aload_n (i := 0) C dX7_count_84 rfl rfl ?_
    refine zq_getr C fk_X7_10 sx70 rfl dX7_count_85 ?_
    refine zq_get (kz := 0) C fk_X7_196 sx0 rfl dX7_count_88 rfl ?_
    exact zq_iret C rfl ⟨_, rfl, hJ⟩ dX7_count_91
  have hJ := hJ.2 g0
  by_cases g1 : a1 = 1
  · have hJ := hJ.1 g1
    refine zq_tabIn (tgt := 92) C dX7_count_1 (by rw [g1]; decide) (by rw [g1]; decide) (by rw [g1]; rfl) rfl ?_
    refine zq_aload_n (i := 0) C dX7_count_92 rfl rfl ?_
    refine zq_getr C fk_X7_10 sx70 rfl dX7_count_93 ?_
    refine zq_get (kz := 6) C fk_X7_259 sx0 rfl dX7_count_96 rfl ?_
    exact zq_iret C rfl ⟨_, rfl, hJ⟩ dX7_count_99
  have hJ := hJ.2 g1
  by_cases g2 : a1 = 2
  · have hJ := hJ.1 g2
    refine zq_tabIn (tgt := 100) C dX7_count_1 (by rw [g2]; decide) (by rw [g2]; decide) (by rw [g2]; rfl) rfl ?_
    refine zq_aload_n (i := 0) C dX7_count_100 rfl rfl ?_
    refine zq_getr C fk_X7_10 sx70 rfl dX7_count_101 ?_
    refine zq_callVi C [] (wC_lanesWithBars l zch0 _  hJ) ck_X7_262 iv_X0_lanesWithBars rfl sx0 rfl rfl rfl rfl rfl rfl dX7_count_104 (fun r1 N2 hN2 => ?_)
    obtain ⟨rfl, hJ⟩ := hN2
    exact zq_iret C rfl ⟨_, rfl, hJ⟩ dX7_count_107
  have hJ := hJ.2 g2
  by_cases g3 : a1 = 3
  · have hJ := hJ.1 g3
    refine zq_tabIn (tgt := 108) C dX7_count_1 (by rw [g3]; decide) (by rw [g3]; decide) (by rw [g3]; rfl) rfl ?_
    refine zq_aload_n (i := 0) C dX7_count_108 rfl rfl ?_
    refine zq_callVi C [] (wB_undrawnArrows l _  hJ) ck_X7_265 iv_X7_undrawnArrows rfl sx70 rfl rfl rfl rfl rfl rfl dX7_count_109 (fun r3 M4 hJ => ?_)
    exact zq_iret C rfl ⟨_, rfl, hJ⟩ dX7_count_112
  have hJ := hJ.2 g3
  by_cases g4 : a1 = 4
  · have hJ := hJ.1 g4
    refine zq_tabIn (tgt := 113) C dX7_count_1 (by rw [g4]; decide) (by rw [g4]; decide) (by rw [g4]; rfl) rfl ?_
    refine zq_aload_n (i := 0) C dX7_count_113 rfl rfl ?_
    refine zq_getr C fk_X7_10 sx70 rfl dX7_count_114 ?_
    refine zq_callVi C [] (wC_lateArrows l zch0 _  hJ) ck_X7_268 iv_X0_lateArrows rfl sx0 rfl rfl rfl rfl rfl rfl dX7_count_117 (fun r5 N6 hN6 => ?_)
    obtain ⟨rfl, hJ⟩ := hN6
    exact zq_iret C rfl ⟨_, rfl, hJ⟩ dX7_count_120
  have hJ := hJ.2 g4
  by_cases g5 : a1 = 5
  · have hJ := hJ.1 g5
    refine zq_tabIn (tgt := 121) C dX7_count_1 (by rw [g5]; decide) (by rw [g5]; decide) (by rw [g5]; rfl) rfl ?_
    refine zq_aload_n (i := 0) C dX7_count_121 rfl rfl ?_
    refine zq_callVi C [] (wB_crossingPoints l _  hJ) ck_X7_271 iv_X7_crossingPoints rfl sx70 rfl rfl rfl rfl rfl rfl dX7_count_122 (fun r7 M8 hJ => ?_)
    exact zq_iret C rfl ⟨_, rfl, hJ⟩ dX7_count_125
  have hJ := hJ.2 g5
  by_cases g6 : a1 = 6
  · have hJ := hJ.1 g6
    refine zq_tabIn (tgt := 126) C dX7_count_1 (by rw [g6]; decide) (by rw [g6]; decide) (by rw [g6]; rfl) rfl ?_
    refine zq_aload_n (i := 0) C dX7_count_126 rfl rfl ?_
    refine zq_getr C fk_X7_10 sx70 rfl dX7_count_127 ?_
    refine zq_callVi C [] (wC_greatestEnd l zch0 _  hJ) ck_X7_274 iv_X0_greatestEnd rfl sx0 rfl rfl rfl rfl rfl rfl dX7_count_130 (fun r9 N10 hN10 => ?_)
    obtain ⟨rfl, hJ⟩ := hN10
    exact zq_iret C rfl ⟨_, rfl, hJ⟩ dX7_count_133
  have hJ := hJ.2 g6
  by_cases g7 : a1 = 7
  · have hJ := hJ.1 g7
    refine zq_tabIn (tgt := 134) C dX7_count_1 (by rw [g7]; decide) (by rw [g7]; decide) (by rw [g7]; rfl) rfl ?_
    refine zq_aload_n (i := 0) C dX7_count_134 rfl rfl ?_
    refine zq_callVi C [] (wB_stripsInAll l _  hJ) ck_X7_277 iv_X7_stripsInAll rfl sx70 rfl rfl rfl rfl rfl rfl dX7_count_135 (fun r11 M12 hJ => ?_)
    exact zq_iret C rfl ⟨_, rfl, hJ⟩ dX7_count_138
  have hJ := hJ.2 g7
  by_cases g8 : a1 = 8
  · have hJ := hJ.1 g8
    refine zq_tabIn (tgt := 139) C dX7_count_1 (by rw [g8]; decide) (by rw [g8]; decide) (by rw [g8]; rfl) rfl ?_
    refine zq_aload_n (i := 0) C dX7_count_139 rfl rfl ?_
    refine zq_getr C fk_X7_10 sx70 rfl dX7_count_140 ?_
    refine zq_aload_n (i := 0) C dX7_count_143 rfl rfl ?_
    refine zq_getr C fk_X7_10 sx70 rfl dX7_count_144 ?_
    refine zq_callVi C [] (wC_greatestEnd l zch0 _  hJ) ck_X7_274 iv_X0_greatestEnd rfl sx0 rfl rfl rfl rfl rfl rfl dX7_count_147 (fun r13 N14 hN14 => ?_)
    obtain ⟨rfl, hJ⟩ := hN14
    refine zq_callVi C [zi r13] (wC_place l zch0 _ _  hJ) ck_X7_202 iv_X0_place rfl sx0 rfl rfl rfl rfl rfl rfl dX7_count_150 (fun r15 N16 hN16 => ?_)
    obtain ⟨rfl, hJ⟩ := hN16
    exact zq_iret C rfl ⟨_, rfl, hJ⟩ dX7_count_153
  have hJ := hJ.2 g8
  by_cases g9 : a1 = 9
  · have hJ := hJ.1 g9
    refine zq_tabIn (tgt := 154) C dX7_count_1 (by rw [g9]; decide) (by rw [g9]; decide) (by rw [g9]; rfl) rfl ?_
    refine zq_aload_n (i := 0) C dX7_count_154 rfl rfl ?_
    refine zq_callVi C [] (wB_criticalBars l _  hJ) ck_X7_280 iv_X7_criticalBars rfl sx70 rfl rfl rfl rfl rfl rfl dX7_count_155 (fun r17 M18 hJ => ?_)
    exact zq_iret C rfl ⟨_, rfl, hJ⟩ dX7_count_158
  have hJ := hJ.2 g9
  by_cases g10 : a1 = 10
  · have hJ := hJ.1 g10
    refine zq_tabIn (tgt := 159) C dX7_count_1 (by rw [g10]; decide) (by rw [g10]; decide) (by rw [g10]; rfl) rfl ?_
    refine zq_aload_n (i := 0) C dX7_count_159 rfl rfl ?_
    refine zq_getr C fk_X7_10 sx70 rfl dX7_count_160 ?_
    refine zq_get (kz := 1) C fk_X7_283 sx0 rfl dX7_count_163 rfl ?_
    exact zq_iret C rfl ⟨_, rfl, hJ⟩ dX7_count_166
  have hJ := hJ.2 g10
  by_cases g11 : a1 = 11
  · have hJ := hJ.1 g11
    refine zq_tabIn (tgt := 167) C dX7_count_1 (by rw [g11]; decide) (by rw [g11]; decide) (by rw [g11]; rfl) rfl ?_
    refine zq_aload_n (i := 0) C dX7_count_167 rfl rfl ?_
    refine zq_getr C fk_X7_10 sx70 rfl dX7_count_168 ?_
    refine zq_get (kz := 7) C fk_X7_286 sx0 rfl dX7_count_171 rfl ?_
    exact zq_iret C rfl ⟨_, rfl, hJ⟩ dX7_count_174
  have hJ := hJ.2 g11
  by_cases g12 : a1 = 12
  · have hJ := hJ.1 g12
    refine zq_tabIn (tgt := 175) C dX7_count_1 (by rw [g12]; decide) (by rw [g12]; decide) (by rw [g12]; rfl) rfl ?_
    refine zq_aload_n (i := 0) C dX7_count_175 rfl rfl ?_
    refine zq_getr C fk_X7_10 sx70 rfl dX7_count_176 ?_
    refine zq_get (kz := 13) C fk_X7_289 sx0 rfl dX7_count_179 rfl ?_
    exact zq_iret C rfl ⟨_, rfl, hJ⟩ dX7_count_182
  have hJ := hJ.2 g12
  by_cases g13 : a1 = 13
  · have hJ := hJ.1 g13
    refine zq_tabIn (tgt := 183) C dX7_count_1 (by rw [g13]; decide) (by rw [g13]; decide) (by rw [g13]; rfl) rfl ?_
    refine zq_aload_n (i := 0) C dX7_count_183 rfl rfl ?_
    refine zq_getr C fk_X7_25 sx70 rfl dX7_count_184 ?_
    refine zq_get (kz := 2) C fk_X7_292 sx71 rfl dX7_count_187 rfl ?_
    exact zq_iret C rfl ⟨_, rfl, hJ⟩ dX7_count_190
  have hJ := hJ.2 g13
  by_cases g14 : a1 = 14
  · have hJ := hJ.1 g14
    refine zq_tabIn (tgt := 191) C dX7_count_1 (by rw [g14]; decide) (by rw [g14]; decide) (by rw [g14]; rfl) rfl ?_
    refine zq_aload_n (i := 0) C dX7_count_191 rfl rfl ?_
    refine zq_getr C fk_X7_32 sx70 rfl dX7_count_192 ?_
    refine zq_get (kz := 1) C fk_X7_185 sx73 rfl dX7_count_195 rfl ?_
    exact zq_iret C rfl ⟨_, rfl, hJ⟩ dX7_count_198
  have hJ := hJ.2 g14
  by_cases g15 : a1 = 15
  · have hJ := hJ.1 g15
    refine zq_tabIn (tgt := 199) C dX7_count_1 (by rw [g15]; decide) (by rw [g15]; decide) (by rw [g15]; rfl) rfl ?_
    refine zq_aload_n (i := 0) C dX7_count_199 rfl rfl ?_
    refine zq_getr C fk_X7_10 sx70 rfl dX7_count_200 ?_
    refine zq_getr C fk_X7_178 sx0 rfl dX7_count_203 ?_
    refine zq_iconst (x := 0) C dX7_count_206 rfl ik_0 ?_
    refine zq_iald C sx9 (by decide) (by decide) dX7_count_207 ?_
    exact zq_iret C rfl ⟨_, rfl, hJ⟩ dX7_count_208
  have hJ := hJ.2 g15
  by_cases g16 : a1 = 16
  · have hJ := hJ.1 g16
    refine zq_tabIn (tgt := 209) C dX7_count_1 (by rw [g16]; decide) (by rw [g16]; decide) (by rw [g16]; rfl) rfl ?_
    refine zq_aload_n (i := 0) C dX7_count_209 rfl rfl ?_
    refine zq_getr C fk_X7_10 sx70 rfl dX7_count_210 ?_
    refine zq_getr C fk_X7_178 sx0 rfl dX7_count_213 ?_
    refine zq_iconst (x := 1) C dX7_count_216 rfl ik_1 ?_
    refine zq_iald C sx9 (by decide) (by decide) dX7_count_217 ?_
    exact zq_iret C rfl ⟨_, rfl, hJ⟩ dX7_count_218
  have hJ := hJ.2 g16
  refine zq_tabOut (tgt := 219) C dX7_count_1 (zto17 g0 g1 g2 g3 g4 g5 g6 g7 g8 g9 g10 g11 g12 g13 g14 g15 g16) rfl ?_
  refine zq_bipush (x := (-2)) C dX7_count_219 bi_m2 ik_m2 ?_
  exact zq_iret C rfl ⟨_, rfl, hJ⟩ dX7_count_221
set_option maxRecDepth 100000 in
set_option maxHeartbeats 4000000 in
theorem wB_latest (l : Launch) (a1 : Int) (M : zM) {Φ : Int → zM → Prop} (hJ : jB_latest a1 M Φ) : zMet l yX7_latest cX7_latest 3 (some .int) 4 91 shX [zr 70, zi a1] M (zI Φ) := by
  refine zq_enter [some (zr 70), some (zi a1), none] (by decide) rfl (Nat.le_of_ble_eq_true rfl) rfl (fun X C => ?_)
  unfold jB_latest at hJ
  refine zq_aload_n (i := 0) C dX7_latest_0 rfl rfl ?_
  refine zq_getr C fk_X7_10 sx70 rfl dX7_latest_1 ?_
  refine zq_iload_n (i := 1) C dX7_latest_4 rfl rfl ?_
  refine zq_callVi C [zi a1] (wC_slotOf l zch0 _ _  hJ) ck_X7_91 iv_X0_slotOf rfl sx0 rfl rfl rfl rfl rfl rfl dX7_latest_5 (fun r1 N2 hN2 => ?_)
  obtain ⟨rfl, hJ⟩ := hN2
  refine zq_istore_n (i := 2) (lv' := [some (zr 70), some (zi a1), some (zi r1)]) C dX7_latest_8 rfl (Nat.le_of_ble_eq_true rfl) rfl ?_
  refine zq_iload_n (i := 2) C dX7_latest_9 rfl rfl ?_
  refine zq_if_ge (tgt := 17) C dX7_latest_10 rfl (fun h5 => ?_) (fun h5 => ?_)
  · have hJ := hJ.1 h5
    refine zq_aload_n (i := 0) C dX7_latest_17 rfl rfl ?_
    refine zq_iload_n (i := 2) C dX7_latest_18 rfl rfl ?_
    refine zq_callVi C [zi r1] (wB_latestOf l _ _  hJ) ck_X7_208 iv_X7_latestOf rfl sx70 rfl rfl rfl rfl rfl rfl dX7_latest_19 (fun r3 M4 hJ => ?_)
    exact zq_iret C rfl ⟨_, rfl, hJ⟩ dX7_latest_22
  · have hJ := hJ.2 h5
    refine zq_iconst (x := (-1)) C dX7_latest_13 rfl ik_m1 ?_
    refine zq_goto (tgt := 22) C dX7_latest_14 rfl ?_
    exact zq_iret C rfl ⟨_, rfl, hJ⟩ dX7_latest_22
set_option maxRecDepth 100000 in
set_option maxHeartbeats 4000000 in
theorem wP_longestRow (l : Launch) {c1 : Nat} (hc1 : zCh c1)  (M : zM) {Φ : Int → zM → Prop} (hJ : jP_longestRow c1 M Φ) : zMet l yX5_longestRow cX5_longestRow 8 (some .int) 1 22 shX [zr 78, zr c1] M (zI Φ) := by
  refine zq_enter [some (zr 78), some (zr c1), none, none, none, none, none, none] (by decide) rfl (Nat.le_of_ble_eq_true rfl) rfl (fun X C => ?_)
  unfold jP_longestRow at hJ
  have hl4 : ∀ (s : Int × Int × zM), zwh (fun K s => jP_longestRow_L4 c1 K Φ (s.1) (s.2.1) (s.2.2)) s → zG X (s.2.2) 4 [some (zr 78), some (zr c1), some (zi (s.1)), some (zi (s.2.1)), none, none, none, none] [] := by
    refine zwh_sound ?_
    intro K4 s hK4 hJ
    obtain ⟨x2, x3, M⟩ := s
    have hJ : jP_longestRow_L4 c1 K4 Φ x2 x3 M := hJ
    show zG X M 4 [some (zr 78), some (zr c1), some (zi x2), some (zi x3), none, none, none, none] []
    unfold jP_longestRow_L4 at hJ
    have hl26 : ∀ (x2 x3 x4 : Int) (M : zM) (s : Int × Int), zwh (fun K s => jP_longestRow_L26 c1 K4 K Φ x2 x3 x4 M (s.1) (s.2)) s → zG X M 26 [some (zr 78), some (zr c1), some (zi x2), some (zi x3), some (zi x4), some (zi (s.1)), some (zi (s.2)), none] [] := by
      intro x2 x3 x4 M
      refine zwh_sound ?_
      intro K26 s hK26 hJ
      obtain ⟨x5, x6⟩ := s
      have hJ : jP_longestRow_L26 c1 K4 K26 Φ x2 x3 x4 M x5 x6 := hJ
      show zG X M 26 [some (zr 78), some (zr c1), some (zi x2), some (zi x3), some (zi x4), some (zi x5), some (zi x6), none] []
      unfold jP_longestRow_L26 at hJ
      refine zq_iload C dX5_longestRow_26 rfl ?_
      refine zq_iload_n (i := 3) C dX5_longestRow_28 rfl rfl ?_
      refine zq_icmp_ge (tgt := 72) C dX5_longestRow_29 rfl (fun h21 => ?_) (fun h21 => ?_)
      · have hJ := hJ.1 h21
        refine zq_aload_n (i := 0) C dX5_longestRow_72 rfl rfl ?_
        refine zq_getr C fk_X5_18 sx78 rfl dX5_longestRow_73 ?_
        refine zq_iload C dX5_longestRow_76 rfl ?_
        refine zq_iload C dX5_longestRow_78 rfl ?_
        refine zq_aload_n (i := 1) C dX5_longestRow_80 rfl rfl ?_
        refine zq_getr C fk_X5_58 (zs0 hc1) rfl dX5_longestRow_81 ?_
        refine zq_iload C dX5_longestRow_84 rfl ?_
        obtain ⟨h3, h3', hJ⟩ := hJ
        refine zq_iald C (zs4 hc1) h3 h3' dX5_longestRow_86 ?_
        obtain ⟨h4, hJ⟩ := hJ
        refine zq_iadd C dX5_longestRow_87 h4 ?_
        obtain ⟨h5, h5', hJ⟩ := hJ
        refine zq_iast C sx81 h5 h5' dX5_longestRow_88 (fun M6 hM6 => ?_)
        have hJ := hJ M6 hM6
        refine zq_iload_n (i := 2) C dX5_longestRow_89 rfl rfl ?_
        refine zq_aload_n (i := 0) C dX5_longestRow_90 rfl rfl ?_
        refine zq_getr C fk_X5_18 sx78 rfl dX5_longestRow_91 ?_
        refine zq_iload C dX5_longestRow_94 rfl ?_
        obtain ⟨h7, h7', hJ⟩ := hJ
        refine zq_iald C sx81 h7 h7' dX5_longestRow_96 ?_
        refine zq_max C mk_X5_61 rfl ⟨Nat.le_of_ble_eq_true rfl, Nat.le_of_ble_eq_true rfl⟩ dX5_longestRow_97 ?_
        refine zq_istoreN_n (i := 2) C (fun v => [some (zr 78), some (zr c1), some (zi v), some (zi x3), some (zi x4), some (zi x5), some (zi x6), none]) dX5_longestRow_100 rfl (Nat.le_of_ble_eq_true rfl) (fun _ => rfl) (fun v2_9 hv2_9 => ?_)
        have hJ := hJ v2_9 hv2_9
        obtain ⟨hv3_10, hJ⟩ := hJ
        refine zq_iinc (y := x3 + 1) (lv' := [some (zr 78), some (zr c1), some (zi v2_9), some (zi (x3 + 1)), some (zi x4), some (zi x5), some (zi x6), none]) C dX5_longestRow_101 rfl rfl hv3_10 rfl ?_
        obtain ⟨v3_10, ev3_10⟩ : ∃ z, z = x3 + 1 := ⟨_, rfl⟩
        rw [← ev3_10]
        have hJ := hJ v3_10 ev3_10
        refine zq_goto (tgt := 4) C dX5_longestRow_104 rfl ?_
        refine zq_weak [some (zr 78), some (zr c1), some (zi v2_9), some (zi v3_10), none, none, none, none] ⟨Or.inr rfl, Or.inr rfl, Or.inr rfl, Or.inr rfl, Or.inl rfl, Or.inl rfl, Or.inl rfl, Or.inl rfl, trivial⟩ ?_
        exact hK4 _ hJ
      · have hJ := hJ.2 h21
        refine zq_aload_n (i := 0) C dX5_longestRow_32 rfl rfl ?_
        refine zq_getr C fk_X5_9 sx78 rfl dX5_longestRow_33 ?_
        refine zq_iload C dX5_longestRow_36 rfl ?_
        obtain ⟨h11, h11', hJ⟩ := hJ
        refine zq_iald C sx79 h11 h11' dX5_longestRow_38 ?_
        refine zq_istoreN C (fun v => [some (zr 78), some (zr c1), some (zi x2), some (zi x3), some (zi x4), some (zi x5), some (zi x6), some (zi v)]) dX5_longestRow_39 (Nat.le_of_ble_eq_true rfl) (fun _ => rfl) (fun v7_12 hv7_12 => ?_)
        have hJ := hJ v7_12 hv7_12
        refine zq_aload_n (i := 0) C dX5_longestRow_41 rfl rfl ?_
        refine zq_iload C dX5_longestRow_42 rfl ?_
        refine zq_iload C dX5_longestRow_44 rfl ?_
        refine zq_callVi C [zi x4, zi v7_12] (wP_isPushed l _ _ _  hJ) ck_X5_54 iv_X5_isPushed rfl sx78 rfl rfl rfl rfl rfl rfl dX5_longestRow_46 (fun r13 N14 hN14 => ?_)
        obtain ⟨rfl, hJ⟩ := hN14
        refine zq_if_eq (tgt := 66) C dX5_longestRow_49 rfl (fun h20 => ?_) (fun h20 => ?_)
        · have hJ := hJ.1 h20
          obtain ⟨hv6_15, hJ⟩ := hJ
          refine zq_iinc (y := x6 + 1) (lv' := [some (zr 78), some (zr c1), some (zi x2), some (zi x3), some (zi x4), some (zi x5), some (zi (x6 + 1)), some (zi v7_12)]) C dX5_longestRow_66 rfl rfl hv6_15 rfl ?_
          obtain ⟨v6_15, ev6_15⟩ : ∃ z, z = x6 + 1 := ⟨_, rfl⟩
          rw [← ev6_15]
          have hJ := hJ v6_15 ev6_15
          refine zq_goto (tgt := 26) C dX5_longestRow_69 rfl ?_
          refine zq_weak [some (zr 78), some (zr c1), some (zi x2), some (zi x3), some (zi x4), some (zi x5), some (zi v6_15), none] ⟨Or.inr rfl, Or.inr rfl, Or.inr rfl, Or.inr rfl, Or.inr rfl, Or.inr rfl, Or.inr rfl, Or.inl rfl, trivial⟩ ?_
          exact hK26 _ hJ
        · have hJ := hJ.2 h20
          refine zq_iload C dX5_longestRow_52 rfl ?_
          refine zq_aload_n (i := 0) C dX5_longestRow_54 rfl rfl ?_
          refine zq_getr C fk_X5_18 sx78 rfl dX5_longestRow_55 ?_
          refine zq_iload C dX5_longestRow_58 rfl ?_
          obtain ⟨h16, h16', hJ⟩ := hJ
          refine zq_iald C sx81 h16 h16' dX5_longestRow_60 ?_
          refine zq_max C mk_X5_61 rfl ⟨Nat.le_of_ble_eq_true rfl, Nat.le_of_ble_eq_true rfl⟩ dX5_longestRow_61 ?_
          refine zq_istoreN C (fun v => [some (zr 78), some (zr c1), some (zi x2), some (zi x3), some (zi x4), some (zi v), some (zi x6), some (zi v7_12)]) dX5_longestRow_64 (Nat.le_of_ble_eq_true rfl) (fun _ => rfl) (fun v5_18 hv5_18 => ?_)
          have hJ := hJ v5_18 hv5_18
          obtain ⟨hv6_19, hJ⟩ := hJ
          refine zq_iinc (y := x6 + 1) (lv' := [some (zr 78), some (zr c1), some (zi x2), some (zi x3), some (zi x4), some (zi v5_18), some (zi (x6 + 1)), some (zi v7_12)]) C dX5_longestRow_66 rfl rfl hv6_19 rfl ?_
          obtain ⟨v6_19, ev6_19⟩ : ∃ z, z = x6 + 1 := ⟨_, rfl⟩
          rw [← ev6_19]
          have hJ := hJ v6_19 ev6_19
          refine zq_goto (tgt := 26) C dX5_longestRow_69 rfl ?_
          refine zq_weak [some (zr 78), some (zr c1), some (zi x2), some (zi x3), some (zi x4), some (zi v5_18), some (zi v6_19), none] ⟨Or.inr rfl, Or.inr rfl, Or.inr rfl, Or.inr rfl, Or.inr rfl, Or.inr rfl, Or.inr rfl, Or.inl rfl, trivial⟩ ?_
          exact hK26 _ hJ
    refine zq_iload_n (i := 3) C dX5_longestRow_4 rfl rfl ?_
    refine zq_aload_n (i := 1) C dX5_longestRow_5 rfl rfl ?_
    refine zq_get (kz := 0) C fk_X5_25 (zs0 hc1) rfl dX5_longestRow_6 rfl ?_
    refine zq_icmp_ge (tgt := 107) C dX5_longestRow_9 rfl (fun h22 => ?_) (fun h22 => ?_)
    · have hJ := hJ.1 h22
      refine zq_iload_n (i := 2) C dX5_longestRow_107 rfl rfl ?_
      exact zq_iret C rfl ⟨_, rfl, hJ⟩ dX5_longestRow_108
    · have hJ := hJ.2 h22
      refine zq_aload_n (i := 0) C dX5_longestRow_12 rfl rfl ?_
      refine zq_getr C fk_X5_9 sx78 rfl dX5_longestRow_13 ?_
      refine zq_iload_n (i := 3) C dX5_longestRow_16 rfl rfl ?_
      obtain ⟨h1, h1', hJ⟩ := hJ
      refine zq_iald C sx79 h1 h1' dX5_longestRow_17 ?_
      refine zq_istoreN C (fun v => [some (zr 78), some (zr c1), some (zi x2), some (zi x3), some (zi v), none, none, none]) dX5_longestRow_18 (Nat.le_of_ble_eq_true rfl) (fun _ => rfl) (fun v4_2 hv4_2 => ?_)
      have hJ := hJ v4_2 hv4_2
      refine zq_iconst (x := 0) C dX5_longestRow_20 rfl ik_0 ?_
      refine zq_istore (lv' := [some (zr 78), some (zr c1), some (zi x2), some (zi x3), some (zi v4_2), some (zi 0), none, none]) C dX5_longestRow_21 (Nat.le_of_ble_eq_true rfl) rfl ?_
      refine zq_iconst (x := 0) C dX5_longestRow_23 rfl ik_0 ?_
      refine zq_istore (lv' := [some (zr 78), some (zr c1), some (zi x2), some (zi x3), some (zi v4_2), some (zi 0), some (zi 0), none]) C dX5_longestRow_24 (Nat.le_of_ble_eq_true rfl) rfl ?_
      exact hl26 _ _ _ _ _ hJ
  refine zq_iconst (x := 0) C dX5_longestRow_0 rfl ik_0 ?_
  refine zq_istore_n (i := 2) (lv' := [some (zr 78), some (zr c1), some (zi 0), none, none, none, none, none]) C dX5_longestRow_1 rfl (Nat.le_of_ble_eq_true rfl) rfl ?_
  refine zq_iconst (x := 0) C dX5_longestRow_2 rfl ik_0 ?_
  refine zq_istore_n (i := 3) (lv' := [some (zr 78), some (zr c1), some (zi 0), some (zi 0), none, none, none, none]) C dX5_longestRow_3 rfl (Nat.le_of_ble_eq_true rfl) rfl ?_
  exact hl4 _ hJ
set_option maxRecDepth 100000 in
set_option maxHeartbeats 4000000 in
theorem wB_longest (l : Launch)  (M : zM) {Φ : Int → zM → Prop} (hJ : jB_longest  M Φ) : zMet l yX7_longest cX7_longest 1 (some .int) 3 64 shX [zr 70] M (zI Φ) := by
  refine zq_enter [some (zr 70)] (by decide) rfl (Nat.le_of_ble_eq_true rfl) rfl (fun X C => ?_)
  unfold jB_longest at hJ
  refine zq_aload_n (i := 0) C dX7_longest_0 rfl rfl ?_
  refine zq_getr C fk_X7_39 sx70 rfl dX7_longest_1 ?_
  refine zq_aload_n (i := 0) C dX7_longest_4 rfl rfl ?_
  refine zq_getr C fk_X7_10 sx70 rfl dX7_longest_5 ?_
  refine zq_callVv C [zr 0] (wP_read l zch0 _  hJ) ck_X7_154 iv_X5_read rfl sx78 rfl rfl rfl rfl rfl rfl dX7_longest_8 (fun M1 hJ => ?_)
  refine zq_aload_n (i := 0) C dX7_longest_11 rfl rfl ?_
  refine zq_getr C fk_X7_39 sx70 rfl dX7_longest_12 ?_
  refine zq_aload_n (i := 0) C dX7_longest_15 rfl rfl ?_
  refine zq_getr C fk_X7_10 sx70 rfl dX7_longest_16 ?_
  refine zq_callVi C [zr 0] (wP_longestRow l zch0 _  hJ) ck_X7_295 iv_X5_longestRow rfl sx78 rfl rfl rfl rfl rfl rfl dX7_longest_19 (fun r2 M3 hJ => ?_)
  exact zq_iret C rfl ⟨_, rfl, hJ⟩ dX7_longest_22
set_option maxRecDepth 100000 in
set_option maxHeartbeats 4000000 in
theorem wB_ifSlipped (l : Launch) (a1 a2 : Int) (M : zM) {Φ : Int → zM → Prop} (hJ : jB_ifSlipped a1 a2 M Φ) : zMet l yX7_ifSlipped cX7_ifSlipped 4 (some .int) 3 64 shX [zr 70, zi a1, zi a2] M (zI Φ) := by
  refine zq_enter [some (zr 70), some (zi a1), some (zi a2), none] (by decide) rfl (Nat.le_of_ble_eq_true rfl) rfl (fun X C => ?_)
  unfold jB_ifSlipped at hJ
  refine zq_aload_n (i := 0) C dX7_ifSlipped_0 rfl rfl ?_
  refine zq_getr C fk_X7_10 sx70 rfl dX7_ifSlipped_1 ?_
  refine zq_iload_n (i := 1) C dX7_ifSlipped_4 rfl rfl ?_
  refine zq_callVi C [zi a1] (wC_slotOf l zch0 _ _  hJ) ck_X7_91 iv_X0_slotOf rfl sx0 rfl rfl rfl rfl rfl rfl dX7_ifSlipped_5 (fun r1 N2 hN2 => ?_)
  obtain ⟨rfl, hJ⟩ := hN2
  refine zq_istore_n (i := 3) (lv' := [some (zr 70), some (zi a1), some (zi a2), some (zi r1)]) C dX7_ifSlipped_8 rfl (Nat.le_of_ble_eq_true rfl) rfl ?_
  refine zq_iload_n (i := 3) C dX7_ifSlipped_9 rfl rfl ?_
  refine zq_if_ge (tgt := 15) C dX7_ifSlipped_10 rfl (fun h8 => ?_) (fun h8 => ?_)
  · have hJ := hJ.1 h8
    refine zq_iload_n (i := 2) C dX7_ifSlipped_15 rfl rfl ?_
    refine zq_iconst (x := 1) C dX7_ifSlipped_16 rfl ik_1 ?_
    refine zq_icmp_lt (tgt := 26) C dX7_ifSlipped_17 rfl (fun h7 => ?_) (fun h7 => ?_)
    · have hJ := hJ.1 h7
      refine zq_bipush (x := (-2)) C dX7_ifSlipped_26 bi_m2 ik_m2 ?_
      exact zq_iret C rfl ⟨_, rfl, hJ⟩ dX7_ifSlipped_28
    · have hJ := hJ.2 h7
      refine zq_iload_n (i := 2) C dX7_ifSlipped_20 rfl rfl ?_
      refine zq_bipush (x := 30) C dX7_ifSlipped_21 bi_30 ik_30 ?_
      refine zq_icmp_le (tgt := 29) C dX7_ifSlipped_23 rfl (fun h6 => ?_) (fun h6 => ?_)
      · have hJ := hJ.1 h6
        refine zq_aload_n (i := 0) C dX7_ifSlipped_29 rfl rfl ?_
        refine zq_getr C fk_X7_39 sx70 rfl dX7_ifSlipped_30 ?_
        refine zq_aload_n (i := 0) C dX7_ifSlipped_33 rfl rfl ?_
        refine zq_getr C fk_X7_10 sx70 rfl dX7_ifSlipped_34 ?_
        refine zq_callVv C [zr 0] (wP_read l zch0 _  hJ) ck_X7_154 iv_X5_read rfl sx78 rfl rfl rfl rfl rfl rfl dX7_ifSlipped_37 (fun M3 hJ => ?_)
        refine zq_aload_n (i := 0) C dX7_ifSlipped_40 rfl rfl ?_
        refine zq_getr C fk_X7_39 sx70 rfl dX7_ifSlipped_41 ?_
        refine zq_aload_n (i := 0) C dX7_ifSlipped_44 rfl rfl ?_
        refine zq_getr C fk_X7_10 sx70 rfl dX7_ifSlipped_45 ?_
        refine zq_iload_n (i := 3) C dX7_ifSlipped_48 rfl rfl ?_
        refine zq_iload_n (i := 2) C dX7_ifSlipped_49 rfl rfl ?_
        refine zq_callVi C [zr 0, zi r1, zi a2] (wP_slipFrom l zch0 _ _ _  hJ) ck_X7_157 iv_X5_slipFrom rfl sx78 rfl rfl rfl rfl rfl rfl dX7_ifSlipped_50 (fun r4 M5 hJ => ?_)
        exact zq_iret C rfl ⟨_, rfl, hJ⟩ dX7_ifSlipped_53
      · have hJ := hJ.2 h6
        refine zq_bipush (x := (-2)) C dX7_ifSlipped_26 bi_m2 ik_m2 ?_
        exact zq_iret C rfl ⟨_, rfl, hJ⟩ dX7_ifSlipped_28
  · have hJ := hJ.2 h8
    refine zq_iconst (x := (-1)) C dX7_ifSlipped_13 rfl ik_m1 ?_
    exact zq_iret C rfl ⟨_, rfl, hJ⟩ dX7_ifSlipped_14
set_option maxRecDepth 100000 in
set_option maxHeartbeats 4000000 in
theorem wS_isBetter (l : Launch) {c1 : Nat} (hc1 : zCh c1)  (M : zM) {Φ : Int → zM → Prop} (hJ : jS_isBetter c1 M Φ) : zMet l yX6_isBetter cX6_isBetter 4 (some .boolean) 5 118 shX [zr 87, zr c1, zr 82] M (zI Φ) := by
  refine zq_enter [some (zr 87), some (zr c1), some (zr 82), none] (by decide) rfl (Nat.le_of_ble_eq_true rfl) rfl (fun X C => ?_)
  unfold jS_isBetter at hJ
  have hj45 : ∀ (x3 : Int) (M : zM), jS_isBetter_J45 c1 Φ x3 M → zG X M 45 [some (zr 87), some (zr c1), some (zr 82), some (zi x3)] [] := by
    intro x3 M hJ
    unfold jS_isBetter_J45 at hJ
    refine zq_aload_n (i := 0) C dX6_isBetter_45 rfl rfl ?_
    refine zq_aload_n (i := 2) C dX6_isBetter_46 rfl rfl ?_
    refine zq_get (kz := 1) C fk_X6_15 sx82 rfl dX6_isBetter_47 rfl ?_
    refine zq_put (kz := 2) C fk_X6_19 sx87 rfl dX6_isBetter_50 rfl (fun M4 hM4 => ?_)
    have hJ := hJ M4 hM4
    refine zq_aload_n (i := 0) C dX6_isBetter_53 rfl rfl ?_
    refine zq_iload_n (i := 3) C dX6_isBetter_54 rfl rfl ?_
    refine zq_put (kz := 3) C fk_X6_26 sx87 rfl dX6_isBetter_55 rfl (fun M5 hM5 => ?_)
    have hJ := hJ M5 hM5
    refine zq_iconst (x := 1) C dX6_isBetter_58 rfl ik_1 ?_
    exact zq_zret C rfl (Or.inr rfl) ⟨_, rfl, hJ⟩ dX6_isBetter_59
  refine zq_aload_n (i := 2) C dX6_isBetter_0 rfl rfl ?_
  refine zq_aload_n (i := 1) C dX6_isBetter_1 rfl rfl ?_
  refine zq_callVv C [zr c1] (wD_draw l hc1 _  hJ) ck_X6_9 iv_X2_draw rfl sx82 rfl rfl rfl rfl rfl rfl dX6_isBetter_2 (fun M1 hJ => ?_)
  refine zq_aload_n (i := 2) C dX6_isBetter_5 rfl rfl ?_
  refine zq_get (kz := 1) C fk_X6_15 sx82 rfl dX6_isBetter_6 rfl ?_
  refine zq_aload_n (i := 0) C dX6_isBetter_9 rfl rfl ?_
  refine zq_get (kz := 2) C fk_X6_19 sx87 rfl dX6_isBetter_10 rfl ?_
  refine zq_icmp_le (tgt := 18) C dX6_isBetter_13 rfl (fun h8 => ?_) (fun h8 => ?_)
  · have hJ := hJ.1 h8
    refine zq_aload_n (i := 2) C dX6_isBetter_18 rfl rfl ?_
    refine zq_aload_n (i := 1) C dX6_isBetter_19 rfl rfl ?_
    refine zq_callVi C [zr c1] (wD_pointsInAll l hc1 _  hJ) ck_X6_22 iv_X2_pointsInAll rfl sx82 rfl rfl rfl rfl rfl rfl dX6_isBetter_20 (fun r2 N3 hN3 => ?_)
    obtain ⟨rfl, hJ⟩ := hN3
    refine zq_istore_n (i := 3) (lv' := [some (zr 87), some (zr c1), some (zr 82), some (zi r2)]) C dX6_isBetter_23 rfl (Nat.le_of_ble_eq_true rfl) rfl ?_
    refine zq_aload_n (i := 2) C dX6_isBetter_24 rfl rfl ?_
    refine zq_get (kz := 1) C fk_X6_15 sx82 rfl dX6_isBetter_25 rfl ?_
    refine zq_aload_n (i := 0) C dX6_isBetter_28 rfl rfl ?_
    refine zq_get (kz := 2) C fk_X6_19 sx87 rfl dX6_isBetter_29 rfl ?_
    refine zq_icmp_ne (tgt := 45) C dX6_isBetter_32 rfl (fun h7 => ?_) (fun h7 => ?_)
    · have hJ := hJ.1 h7
      exact hj45 _ _ hJ
    · have hJ := hJ.2 h7
      refine zq_iload_n (i := 3) C dX6_isBetter_35 rfl rfl ?_
      refine zq_aload_n (i := 0) C dX6_isBetter_36 rfl rfl ?_
      refine zq_get (kz := 3) C fk_X6_26 sx87 rfl dX6_isBetter_37 rfl ?_
      refine zq_icmp_lt (tgt := 45) C dX6_isBetter_40 rfl (fun h6 => ?_) (fun h6 => ?_)
      · have hJ := hJ.1 h6
        exact hj45 _ _ hJ
      · have hJ := hJ.2 h6
        refine zq_iconst (x := 0) C dX6_isBetter_43 rfl ik_0 ?_
        exact zq_zret C rfl (Or.inl rfl) ⟨_, rfl, hJ⟩ dX6_isBetter_44
  · have hJ := hJ.2 h8
    refine zq_iconst (x := 0) C dX6_isBetter_16 rfl ik_0 ?_
    exact zq_zret C rfl (Or.inl rfl) ⟨_, rfl, hJ⟩ dX6_isBetter_17
set_option maxRecDepth 100000 in
set_option maxHeartbeats 4000000 in
theorem wS_find (l : Launch) {c1 : Nat} (hc1 : zCh c1)  (M : zM) {Φ : Int → zM → Prop} (hJ : jS_find c1 M Φ) : zMet l yX6_find cX6_find 6 (some .boolean) 6 141 shX [zr 87, zr c1, zr 82] M (zI Φ) := by
  refine zq_enter [some (zr 87), some (zr c1), some (zr 82), none, none, none] (by decide) rfl (Nat.le_of_ble_eq_true rfl) rfl (fun X C => ?_)
  unfold jS_find at hJ
  have hl27 : ∀ (s : Int × Int × zM), zwh (fun K s => jS_find_L27 c1 K Φ (s.1) (s.2.1) (s.2.2)) s → zG X (s.2.2) 27 [some (zr 87), some (zr c1), some (zr 82), some (zi (s.1)), some (zi (s.2.1)), none] [] := by
    refine zwh_sound ?_
    intro K27 s hK27 hJ
    obtain ⟨x3, x4, M⟩ := s
    have hJ : jS_find_L27 c1 K27 Φ x3 x4 M := hJ
    show zG X M 27 [some (zr 87), some (zr c1), some (zr 82), some (zi x3), some (zi x4), none] []
    unfold jS_find_L27 at hJ
    have hl40 : ∀ (x4 : Int) (s : Int × Int × zM), zwh (fun K s => jS_find_L40 c1 K27 K Φ x4 (s.1) (s.2.1) (s.2.2)) s → zG X (s.2.2) 40 [some (zr 87), some (zr c1), some (zr 82), some (zi (s.1)), some (zi x4), some (zi (s.2.1))] [] := by
      intro x4
      refine zwh_sound ?_
      intro K40 s hK40 hJ
      obtain ⟨x3, x5, M⟩ := s
      have hJ : jS_find_L40 c1 K27 K40 Φ x4 x3 x5 M := hJ
      show zG X M 40 [some (zr 87), some (zr c1), some (zr 82), some (zi x3), some (zi x4), some (zi x5)] []
      unfold jS_find_L40 at hJ
      have hj99 : ∀ (x3 x5 : Int) (M : zM), jS_find_J99 c1 K27 K40 Φ x3 x4 x5 M → zG X M 99 [some (zr 87), some (zr c1), some (zr 82), some (zi x3), some (zi x4), some (zi x5)] [] := by
        intro x3 x5 M hJ
        unfold jS_find_J99 at hJ
        refine zq_aload_n (i := 1) C dX6_find_99 rfl rfl ?_
        refine zq_iload C dX6_find_100 rfl ?_
        refine zq_iload C dX6_find_102 rfl ?_
        refine zq_callVv C [zi x4, zi x5] (wC_exchangeLanes l hc1 _ _ _  hJ) ck_X6_35 iv_X0_exchangeLanes rfl (zs0 hc1) rfl rfl rfl rfl rfl rfl dX6_find_104 (fun M15 hJ => ?_)
        obtain ⟨hv5_16, hJ⟩ := hJ
        refine zq_iinc (y := x5 + 1) (lv' := [some (zr 87), some (zr c1), some (zr 82), some (zi x3), some (zi x4), some (zi (x5 + 1))]) C dX6_find_107 rfl rfl hv5_16 rfl ?_
        obtain ⟨v5_16, ev5_16⟩ : ∃ z, z = x5 + 1 := ⟨_, rfl⟩
        rw [← ev5_16]
        have hJ := hJ v5_16 ev5_16
        refine zq_goto (tgt := 40) C dX6_find_110 rfl ?_
        exact hK40 _ hJ
      have hj68 : ∀ (x3 x5 : Int) (M : zM), jS_find_J68 c1 K27 K40 Φ x3 x4 x5 M → zG X M 68 [some (zr 87), some (zr c1), some (zr 82), some (zi x3), some (zi x4), some (zi x5)] [] := by
        intro x3 x5 M hJ
        unfold jS_find_J68 at hJ
        refine zq_aload_n (i := 1) C dX6_find_68 rfl rfl ?_
        refine zq_iload C dX6_find_69 rfl ?_
        refine zq_iload C dX6_find_71 rfl ?_
        refine zq_callVv C [zi x4, zi x5] (wC_exchangeLanes l hc1 _ _ _  hJ) ck_X6_35 iv_X0_exchangeLanes rfl (zs0 hc1) rfl rfl rfl rfl rfl rfl dX6_find_73 (fun M12 hJ => ?_)
        refine zq_aload_n (i := 0) C dX6_find_76 rfl rfl ?_
        refine zq_aload_n (i := 1) C dX6_find_77 rfl rfl ?_
        refine zq_aload_n (i := 2) C dX6_find_78 rfl rfl ?_
        refine zq_callVi C [zr c1, zr 82] (wS_isBetter l hc1 _  hJ) ck_X6_39 iv_X6_isBetter rfl sx87 rfl rfl rfl rfl rfl rfl dX6_find_79 (fun r13 M14 hJ => ?_)
        refine zq_if_eq (tgt := 99) C dX6_find_82 rfl (fun h19 => ?_) (fun h19 => ?_)
        · have hJ := hJ.1 h19
          exact hj99 _ _ _ hJ
        · have hJ := hJ.2 h19
          refine zq_aload_n (i := 0) C dX6_find_85 rfl rfl ?_
          refine zq_iload C dX6_find_86 rfl ?_
          refine zq_put (kz := 0) C fk_X6_43 sx87 rfl dX6_find_88 rfl (fun M17 hM17 => ?_)
          have hJ := hJ M17 hM17
          refine zq_aload_n (i := 0) C dX6_find_91 rfl rfl ?_
          refine zq_iload C dX6_find_92 rfl ?_
          refine zq_put (kz := 1) C fk_X6_46 sx87 rfl dX6_find_94 rfl (fun M18 hM18 => ?_)
          have hJ := hJ M18 hM18
          refine zq_iconst (x := 1) C dX6_find_97 rfl ik_1 ?_
          refine zq_istore_n (i := 3) (lv' := [some (zr 87), some (zr c1), some (zr 82), some (zi 1), some (zi x4), some (zi x5)]) C dX6_find_98 rfl (Nat.le_of_ble_eq_true rfl) rfl ?_
          exact hj99 _ _ _ hJ
      refine zq_iload C dX6_find_40 rfl ?_
      refine zq_bipush (x := 12) C dX6_find_42 bi_12 ik_12 ?_
      refine zq_icmp_ge (tgt := 113) C dX6_find_44 rfl (fun h25 => ?_) (fun h25 => ?_)
      · have hJ := hJ.1 h25
        obtain ⟨hv4_9, hJ⟩ := hJ
        refine zq_iinc (y := x4 + 1) (lv' := [some (zr 87), some (zr c1), some (zr 82), some (zi x3), some (zi (x4 + 1)), some (zi x5)]) C dX6_find_113 rfl rfl hv4_9 rfl ?_
        obtain ⟨v4_9, ev4_9⟩ : ∃ z, z = x4 + 1 := ⟨_, rfl⟩
        rw [← ev4_9]
        have hJ := hJ v4_9 ev4_9
        refine zq_goto (tgt := 27) C dX6_find_116 rfl ?_
        refine zq_weak [some (zr 87), some (zr c1), some (zr 82), some (zi x3), some (zi v4_9), none] ⟨Or.inr rfl, Or.inr rfl, Or.inr rfl, Or.inr rfl, Or.inr rfl, Or.inl rfl, trivial⟩ ?_
        exact hK27 _ hJ
      · have hJ := hJ.2 h25
        refine zq_aload_n (i := 1) C dX6_find_47 rfl rfl ?_
        refine zq_iload C dX6_find_48 rfl ?_
        refine zq_callVi C [zi x4] (wC_hasBars l hc1 _ _  hJ) ck_X6_29 iv_X0_hasBars rfl (zs0 hc1) rfl rfl rfl rfl rfl rfl dX6_find_50 (fun r10 N11 hN11 => ?_)
        obtain ⟨rfl, hJ⟩ := hN11
        refine zq_if_ne (tgt := 68) C dX6_find_53 rfl (fun h24 => ?_) (fun h24 => ?_)
        · have hJ := hJ.1 h24
          exact hj68 _ _ _ hJ
        · have hJ := hJ.2 h24
          refine zq_aload_n (i := 1) C dX6_find_56 rfl rfl ?_
          refine zq_iload C dX6_find_57 rfl ?_
          refine zq_callVi C [zi x5] (wC_hasBars l hc1 _ _  hJ) ck_X6_29 iv_X0_hasBars rfl (zs0 hc1) rfl rfl rfl rfl rfl rfl dX6_find_59 (fun r20 N21 hN21 => ?_)
          obtain ⟨rfl, hJ⟩ := hN21
          refine zq_if_ne (tgt := 68) C dX6_find_62 rfl (fun h23 => ?_) (fun h23 => ?_)
          · have hJ := hJ.1 h23
            exact hj68 _ _ _ hJ
          · have hJ := hJ.2 h23
            refine zq_goto (tgt := 107) C dX6_find_65 rfl ?_
            obtain ⟨hv5_22, hJ⟩ := hJ
            refine zq_iinc (y := x5 + 1) (lv' := [some (zr 87), some (zr c1), some (zr 82), some (zi x3), some (zi x4), some (zi (x5 + 1))]) C dX6_find_107 rfl rfl hv5_22 rfl ?_
            obtain ⟨v5_22, ev5_22⟩ : ∃ z, z = x5 + 1 := ⟨_, rfl⟩
            rw [← ev5_22]
            have hJ := hJ v5_22 ev5_22
            refine zq_goto (tgt := 40) C dX6_find_110 rfl ?_
            exact hK40 _ hJ
    refine zq_iload C dX6_find_27 rfl ?_
    refine zq_bipush (x := 12) C dX6_find_29 bi_12 ik_12 ?_
    refine zq_icmp_ge (tgt := 119) C dX6_find_31 rfl (fun h26 => ?_) (fun h26 => ?_)
    · have hJ := hJ.1 h26
      refine zq_iload_n (i := 3) C dX6_find_119 rfl rfl ?_
      obtain ⟨h6, hJ⟩ := hJ
      exact zq_zret C rfl h6 ⟨_, rfl, hJ⟩ dX6_find_120
    · have hJ := hJ.2 h26
      refine zq_iload C dX6_find_34 rfl ?_
      refine zq_iconst (x := 1) C dX6_find_36 rfl ik_1 ?_
      obtain ⟨h7, hJ⟩ := hJ
      refine zq_iadd C dX6_find_37 h7 ?_
      refine zq_istoreN C (fun v => [some (zr 87), some (zr c1), some (zr 82), some (zi x3), some (zi x4), some (zi v)]) dX6_find_38 (Nat.le_of_ble_eq_true rfl) (fun _ => rfl) (fun v5_8 hv5_8 => ?_)
      have hJ := hJ v5_8 hv5_8
      exact hl40 _ _ hJ
  refine zq_iconst (x := 0) C dX6_find_0 rfl ik_0 ?_
  refine zq_istore_n (i := 3) (lv' := [some (zr 87), some (zr c1), some (zr 82), some (zi 0), none, none]) C dX6_find_1 rfl (Nat.le_of_ble_eq_true rfl) rfl ?_
  refine zq_aload_n (i := 2) C dX6_find_2 rfl rfl ?_
  refine zq_aload_n (i := 1) C dX6_find_3 rfl rfl ?_
  refine zq_callVv C [zr c1] (wD_draw l hc1 _  hJ) ck_X6_9 iv_X2_draw rfl sx82 rfl rfl rfl rfl rfl rfl dX6_find_4 (fun M1 hJ => ?_)
  refine zq_aload_n (i := 0) C dX6_find_7 rfl rfl ?_
  refine zq_aload_n (i := 2) C dX6_find_8 rfl rfl ?_
  refine zq_get (kz := 1) C fk_X6_15 sx82 rfl dX6_find_9 rfl ?_
  refine zq_put (kz := 2) C fk_X6_19 sx87 rfl dX6_find_12 rfl (fun M2 hM2 => ?_)
  have hJ := hJ M2 hM2
  refine zq_aload_n (i := 0) C dX6_find_15 rfl rfl ?_
  refine zq_aload_n (i := 2) C dX6_find_16 rfl rfl ?_
  refine zq_aload_n (i := 1) C dX6_find_17 rfl rfl ?_
  refine zq_callVi C [zr c1] (wD_pointsInAll l hc1 _  hJ) ck_X6_22 iv_X2_pointsInAll rfl sx82 rfl rfl rfl rfl rfl rfl dX6_find_18 (fun r3 N4 hN4 => ?_)
  obtain ⟨rfl, hJ⟩ := hN4
  refine zq_put (kz := 3) C fk_X6_26 sx87 rfl dX6_find_21 rfl (fun M5 hM5 => ?_)
  have hJ := hJ M5 hM5
  refine zq_iconst (x := 0) C dX6_find_24 rfl ik_0 ?_
  refine zq_istore (lv' := [some (zr 87), some (zr c1), some (zr 82), some (zi 0), some (zi 0), none]) C dX6_find_25 (Nat.le_of_ble_eq_true rfl) rfl ?_
  exact hl27 _ hJ
set_option maxRecDepth 100000 in
set_option maxHeartbeats 4000000 in
theorem wB_bestSwap (l : Launch) (a1 : Int) (M : zM) {Φ : Int → zM → Prop} (hJ : jB_bestSwap a1 M Φ) : zMet l yX7_bestSwap cX7_bestSwap 2 (some .int) 7 166 shX [zr 70, zi a1] M (zI Φ) := by
  refine zq_enter [some (zr 70), some (zi a1)] (by decide) rfl (Nat.le_of_ble_eq_true rfl) rfl (fun X C => ?_)
  unfold jB_bestSwap at hJ
  refine zq_iload_n (i := 1) C dX7_bestSwap_0 rfl rfl ?_
  refine zq_if_lt (tgt := 9) C dX7_bestSwap_1 rfl (fun h6 => ?_) (fun h6 => ?_)
  · have hJ := hJ.1 h6
    refine zq_bipush (x := (-2)) C dX7_bestSwap_9 bi_m2 ik_m2 ?_
    exact zq_iret C rfl ⟨_, rfl, hJ⟩ dX7_bestSwap_11
  · have hJ := hJ.2 h6
    refine zq_iload_n (i := 1) C dX7_bestSwap_4 rfl rfl ?_
    refine zq_iconst (x := 3) C dX7_bestSwap_5 rfl ik_3 ?_
    refine zq_icmp_le (tgt := 12) C dX7_bestSwap_6 rfl (fun h5 => ?_) (fun h5 => ?_)
    · have hJ := hJ.1 h5
      refine zq_aload_n (i := 0) C dX7_bestSwap_12 rfl rfl ?_
      refine zq_getr C fk_X7_16 sx70 rfl dX7_bestSwap_13 ?_
      refine zq_aload_n (i := 0) C dX7_bestSwap_16 rfl rfl ?_
      refine zq_getr C fk_X7_10 sx70 rfl dX7_bestSwap_17 ?_
      refine zq_callVv C [zr 0] (wC_copyFrom l zch10 zch0 _  hJ) ck_X7_64 iv_X0_copyFrom rfl sx10 rfl rfl rfl rfl rfl rfl dX7_bestSwap_20 (fun M1 hJ => ?_)
      refine zq_aload_n (i := 0) C dX7_bestSwap_23 rfl rfl ?_
      refine zq_getr C fk_X7_60 sx70 rfl dX7_bestSwap_24 ?_
      refine zq_aload_n (i := 0) C dX7_bestSwap_27 rfl rfl ?_
      refine zq_getr C fk_X7_16 sx70 rfl dX7_bestSwap_28 ?_
      refine zq_aload_n (i := 0) C dX7_bestSwap_31 rfl rfl ?_
      refine zq_getr C fk_X7_46 sx70 rfl dX7_bestSwap_32 ?_
      refine zq_callVi C [zr 10, zr 82] (wS_find l zch10 _  hJ) ck_X7_301 iv_X6_find rfl sx87 rfl rfl rfl rfl rfl rfl dX7_bestSwap_35 (fun r2 M3 hJ => ?_)
      refine zq_if_ne (tgt := 44) C dX7_bestSwap_38 rfl (fun h4 => ?_) (fun h4 => ?_)
      · have hJ := hJ.1 h4
        refine zq_iload_n (i := 1) C dX7_bestSwap_44 rfl rfl ?_
        by_cases g0 : a1 = 0
        · have hJ := hJ.1 g0
          refine zq_tabIn (tgt := 72) C dX7_bestSwap_45 (by rw [g0]; decide) (by rw [g0]; decide) (by rw [g0]; rfl) rfl ?_
          refine zq_aload_n (i := 0) C dX7_bestSwap_72 rfl rfl ?_
          refine zq_getr C fk_X7_60 sx70 rfl dX7_bestSwap_73 ?_
          refine zq_get (kz := 0) C fk_X7_305 sx87 rfl dX7_bestSwap_76 rfl ?_
          exact zq_iret C rfl ⟨_, rfl, hJ⟩ dX7_bestSwap_79
        have hJ := hJ.2 g0
        by_cases g1 : a1 = 1
        · have hJ := hJ.1 g1
          refine zq_tabIn (tgt := 80) C dX7_bestSwap_45 (by rw [g1]; decide) (by rw [g1]; decide) (by rw [g1]; rfl) rfl ?_
          refine zq_aload_n (i := 0) C dX7_bestSwap_80 rfl rfl ?_
          refine zq_getr C fk_X7_60 sx70 rfl dX7_bestSwap_81 ?_
          refine zq_get (kz := 1) C fk_X7_307 sx87 rfl dX7_bestSwap_84 rfl ?_
          exact zq_iret C rfl ⟨_, rfl, hJ⟩ dX7_bestSwap_87
        have hJ := hJ.2 g1
        by_cases g2 : a1 = 2
        · have hJ := hJ.1 g2
          refine zq_tabIn (tgt := 88) C dX7_bestSwap_45 (by rw [g2]; decide) (by rw [g2]; decide) (by rw [g2]; rfl) rfl ?_
          refine zq_aload_n (i := 0) C dX7_bestSwap_88 rfl rfl ?_
          refine zq_getr C fk_X7_60 sx70 rfl dX7_bestSwap_89 ?_
          refine zq_get (kz := 2) C fk_X7_310 sx87 rfl dX7_bestSwap_92 rfl ?_
          exact zq_iret C rfl ⟨_, rfl, hJ⟩ dX7_bestSwap_95
        have hJ := hJ.2 g2
        refine zq_tabOut (tgt := 96) C dX7_bestSwap_45 (zto3 g0 g1 g2) rfl ?_
        refine zq_aload_n (i := 0) C dX7_bestSwap_96 rfl rfl ?_
        refine zq_getr C fk_X7_60 sx70 rfl dX7_bestSwap_97 ?_
        refine zq_get (kz := 3) C fk_X7_311 sx87 rfl dX7_bestSwap_100 rfl ?_
        exact zq_iret C rfl ⟨_, rfl, hJ⟩ dX7_bestSwap_103
      · have hJ := hJ.2 h4
        refine zq_bipush (x := (-5)) C dX7_bestSwap_41 bi_m5 ik_m5 ?_
        exact zq_iret C rfl ⟨_, rfl, hJ⟩ dX7_bestSwap_43
    · have hJ := hJ.2 h5
      refine zq_bipush (x := (-2)) C dX7_bestSwap_9 bi_m2 ik_m2 ?_
      exact zq_iret C rfl ⟨_, rfl, hJ⟩ dX7_bestSwap_11
