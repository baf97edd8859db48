set_option maxRecDepth 100000 in
set_option maxHeartbeats 4000000 in
theorem wB_bestLane (l : Launch) (a1 : Int) (M : zM) {Φ : Int → zM → Prop} (hJ : jB_bestLane a1 M Φ) : zMet l yX7_bestLane cX7_bestLane 6 (some .int) 4 96 shX [zr 70, zi a1] M (zI Φ) := by
  refine zq_enter [some (zr 70), some (zi a1), none, none, none, none] (by decide) rfl (Nat.le_of_ble_eq_true rfl) rfl (fun X C => ?_)
  unfold jB_bestLane at hJ
  have hl43 : ∀ (x2 : Int) (s : Int × Int × Int × zM), zwh (fun K s => jB_bestLane_L43 a1 K Φ x2 (s.1) (s.2.1) (s.2.2.1) (s.2.2.2)) s → zG X (s.2.2.2) 43 [some (zr 70), some (zi a1), some (zi x2), some (zi (s.1)), some (zi (s.2.1)), some (zi (s.2.2.1))] [] := by
    intro x2
    refine zwh_sound ?_
    intro K43 s hK43 hJ
    obtain ⟨x3, x4, x5, M⟩ := s
    have hJ : jB_bestLane_L43 a1 K43 Φ x2 x3 x4 x5 M := hJ
    show zG X M 43 [some (zr 70), some (zi a1), some (zi x2), some (zi x3), some (zi x4), some (zi x5)] []
    unfold jB_bestLane_L43 at hJ
    refine zq_iload C dX7_bestLane_43 rfl ?_
    refine zq_bipush (x := 12) C dX7_bestLane_45 bi_12 ik_12 ?_
    refine zq_icmp_ge (tgt := 133) C dX7_bestLane_47 rfl (fun h19 => ?_) (fun h19 => ?_)
    · have hJ := hJ.1 h19
      refine zq_iload_n (i := 3) C dX7_bestLane_133 rfl rfl ?_
      exact zq_iret C rfl ⟨_, rfl, hJ⟩ dX7_bestLane_134
    · have hJ := hJ.2 h19
      refine zq_aload_n (i := 0) C dX7_bestLane_50 rfl rfl ?_
      refine zq_getr C fk_X7_10 sx70 rfl dX7_bestLane_51 ?_
      refine zq_iload C dX7_bestLane_54 rfl ?_
      refine zq_aload_n (i := 0) C dX7_bestLane_56 rfl rfl ?_
      refine zq_getr C fk_X7_10 sx70 rfl dX7_bestLane_57 ?_
      refine zq_getr C fk_X7_124 sx0 rfl dX7_bestLane_60 ?_
      refine zq_iload_n (i := 2) C dX7_bestLane_63 rfl rfl ?_
      obtain ⟨h6, h6', hJ⟩ := hJ
      refine zq_iald C sx3 h6 h6' dX7_bestLane_64 ?_
      refine zq_aload_n (i := 0) C dX7_bestLane_65 rfl rfl ?_
      refine zq_getr C fk_X7_10 sx70 rfl dX7_bestLane_66 ?_
      refine zq_getr C fk_X7_118 sx0 rfl dX7_bestLane_69 ?_
      refine zq_iload_n (i := 2) C dX7_bestLane_72 rfl rfl ?_
      obtain ⟨h7, h7', hJ⟩ := hJ
      refine zq_iald C sx4 h7 h7' dX7_bestLane_73 ?_
      refine zq_iload_n (i := 2) C dX7_bestLane_74 rfl rfl ?_
      refine zq_callVi C [zi x5, zi (M 3 x2), zi (M 4 x2), zi x2] (wC_hasRoom l zch0 _ _ _ _ _  hJ) ck_X7_127 iv_X0_hasRoom rfl sx0 rfl rfl rfl rfl rfl rfl dX7_bestLane_75 (fun r8 N9 hN9 => ?_)
      obtain ⟨rfl, hJ⟩ := hN9
      refine zq_if_eq (tgt := 127) C dX7_bestLane_78 rfl (fun h18 => ?_) (fun h18 => ?_)
      · have hJ := hJ.1 h18
        obtain ⟨hv5_10, hJ⟩ := hJ
        refine zq_iinc (y := x5 + 1) (lv' := [some (zr 70), some (zi a1), some (zi x2), some (zi x3), some (zi x4), some (zi (x5 + 1))]) C dX7_bestLane_127 rfl rfl hv5_10 rfl ?_
        obtain ⟨v5_10, ev5_10⟩ : ∃ z, z = x5 + 1 := ⟨_, rfl⟩
        rw [← ev5_10]
        have hJ := hJ v5_10 ev5_10
        refine zq_goto (tgt := 43) C dX7_bestLane_130 rfl ?_
        exact hK43 _ hJ
      · have hJ := hJ.2 h18
        refine zq_aload_n (i := 0) C dX7_bestLane_81 rfl rfl ?_
        refine zq_getr C fk_X7_16 sx70 rfl dX7_bestLane_82 ?_
        refine zq_getr C fk_X7_121 sx10 rfl dX7_bestLane_85 ?_
        refine zq_iload_n (i := 2) C dX7_bestLane_88 rfl rfl ?_
        refine zq_iload C dX7_bestLane_89 rfl ?_
        obtain ⟨h11, h11', hJ⟩ := hJ
        refine zq_iast C sx12 h11 h11' dX7_bestLane_91 (fun M12 hM12 => ?_)
        have hJ := hJ M12 hM12
        refine zq_aload_n (i := 0) C dX7_bestLane_92 rfl rfl ?_
        refine zq_getr C fk_X7_46 sx70 rfl dX7_bestLane_93 ?_
        refine zq_aload_n (i := 0) C dX7_bestLane_96 rfl rfl ?_
        refine zq_getr C fk_X7_16 sx70 rfl dX7_bestLane_97 ?_
        refine zq_callVv C [zr 10] (wD_draw l zch10 _  hJ) ck_X7_131 iv_X2_draw rfl sx82 rfl rfl rfl rfl rfl rfl dX7_bestLane_100 (fun M13 hJ => ?_)
        refine zq_aload_n (i := 0) C dX7_bestLane_103 rfl rfl ?_
        refine zq_getr C fk_X7_46 sx70 rfl dX7_bestLane_104 ?_
        refine zq_get (kz := 1) C fk_X7_134 sx82 rfl dX7_bestLane_107 rfl ?_
        refine zq_iload C dX7_bestLane_110 rfl ?_
        refine zq_icmp_ge (tgt := 127) C dX7_bestLane_112 rfl (fun h17 => ?_) (fun h17 => ?_)
        · have hJ := hJ.1 h17
          obtain ⟨hv5_14, hJ⟩ := hJ
          refine zq_iinc (y := x5 + 1) (lv' := [some (zr 70), some (zi a1), some (zi x2), some (zi x3), some (zi x4), some (zi (x5 + 1))]) C dX7_bestLane_127 rfl rfl hv5_14 rfl ?_
          obtain ⟨v5_14, ev5_14⟩ : ∃ z, z = x5 + 1 := ⟨_, rfl⟩
          rw [← ev5_14]
          have hJ := hJ v5_14 ev5_14
          refine zq_goto (tgt := 43) C dX7_bestLane_130 rfl ?_
          exact hK43 _ hJ
        · have hJ := hJ.2 h17
          refine zq_aload_n (i := 0) C dX7_bestLane_115 rfl rfl ?_
          refine zq_getr C fk_X7_46 sx70 rfl dX7_bestLane_116 ?_
          refine zq_get (kz := 1) C fk_X7_134 sx82 rfl dX7_bestLane_119 rfl ?_
          refine zq_istoreN C (fun v => [some (zr 70), some (zi a1), some (zi x2), some (zi x3), some (zi v), some (zi x5)]) dX7_bestLane_122 (Nat.le_of_ble_eq_true rfl) (fun _ => rfl) (fun v4_15 hv4_15 => ?_)
          have hJ := hJ v4_15 hv4_15
          refine zq_iload C dX7_bestLane_124 rfl ?_
          refine zq_istore_n (i := 3) (lv' := [some (zr 70), some (zi a1), some (zi x2), some (zi x5), some (zi v4_15), some (zi x5)]) C dX7_bestLane_126 rfl (Nat.le_of_ble_eq_true rfl) rfl ?_
          obtain ⟨hv5_16, hJ⟩ := hJ
          refine zq_iinc (y := x5 + 1) (lv' := [some (zr 70), some (zi a1), some (zi x2), some (zi x5), some (zi v4_15), some (zi (x5 + 1))]) C dX7_bestLane_127 rfl rfl hv5_16 rfl ?_
          obtain ⟨v5_16, ev5_16⟩ : ∃ z, z = x5 + 1 := ⟨_, rfl⟩
          rw [← ev5_16]
          have hJ := hJ v5_16 ev5_16
          refine zq_goto (tgt := 43) C dX7_bestLane_130 rfl ?_
          exact hK43 _ hJ
  refine zq_aload_n (i := 0) C dX7_bestLane_0 rfl rfl ?_
  refine zq_getr C fk_X7_10 sx70 rfl dX7_bestLane_1 ?_
  refine zq_iload_n (i := 1) C dX7_bestLane_4 rfl rfl ?_
  refine zq_callVi C [zi a1] (wC_slotOf l zch0 _ _  hJ) ck_X7_91 iv_X0_slotOf rfl sx0 rfl rfl rfl rfl rfl rfl dX7_bestLane_5 (fun r1 N2 hN2 => ?_)
  obtain ⟨rfl, hJ⟩ := hN2
  refine zq_istore_n (i := 2) (lv' := [some (zr 70), some (zi a1), some (zi r1), none, none, none]) C dX7_bestLane_8 rfl (Nat.le_of_ble_eq_true rfl) rfl ?_
  refine zq_iload_n (i := 2) C dX7_bestLane_9 rfl rfl ?_
  refine zq_if_ge (tgt := 15) C dX7_bestLane_10 rfl (fun h20 => ?_) (fun h20 => ?_)
  · have hJ := hJ.1 h20
    refine zq_aload_n (i := 0) C dX7_bestLane_15 rfl rfl ?_
    refine zq_getr C fk_X7_16 sx70 rfl dX7_bestLane_16 ?_
    refine zq_aload_n (i := 0) C dX7_bestLane_19 rfl rfl ?_
    refine zq_getr C fk_X7_10 sx70 rfl dX7_bestLane_20 ?_
    refine zq_callVv C [zr 0] (wC_copyFrom l zch10 zch0 _  hJ) ck_X7_64 iv_X0_copyFrom rfl sx10 rfl rfl rfl rfl rfl rfl dX7_bestLane_23 (fun M3 hJ => ?_)
    refine zq_aload_n (i := 0) C dX7_bestLane_26 rfl rfl ?_
    refine zq_getr C fk_X7_10 sx70 rfl dX7_bestLane_27 ?_
    refine zq_getr C fk_X7_121 sx0 rfl dX7_bestLane_30 ?_
    refine zq_iload_n (i := 2) C dX7_bestLane_33 rfl rfl ?_
    obtain ⟨h4, h4', hJ⟩ := hJ
    refine zq_iald C sx2 h4 h4' dX7_bestLane_34 ?_
    refine zq_istoreN_n (i := 3) C (fun v => [some (zr 70), some (zi a1), some (zi r1), some (zi v), none, none]) dX7_bestLane_35 rfl (Nat.le_of_ble_eq_true rfl) (fun _ => rfl) (fun v3_5 hv3_5 => ?_)
    have hJ := hJ v3_5 hv3_5
    refine zq_bipush (x := 41) C dX7_bestLane_36 bi_41 ik_41 ?_
    refine zq_istore (lv' := [some (zr 70), some (zi a1), some (zi r1), some (zi v3_5), some (zi 41), none]) C dX7_bestLane_38 (Nat.le_of_ble_eq_true rfl) rfl ?_
    refine zq_iconst (x := 0) C dX7_bestLane_40 rfl ik_0 ?_
    refine zq_istore (lv' := [some (zr 70), some (zi a1), some (zi r1), some (zi v3_5), some (zi 41), some (zi 0)]) C dX7_bestLane_41 (Nat.le_of_ble_eq_true rfl) rfl ?_
    exact hl43 _ _ hJ
  · have hJ := hJ.2 h20
    refine zq_iconst (x := (-1)) C dX7_bestLane_13 rfl ik_m1 ?_
    exact zq_iret C rfl ⟨_, rfl, hJ⟩ dX7_bestLane_14
set_option maxRecDepth 100000 in
set_option maxHeartbeats 4000000 in
theorem wL_low (l : Launch) (a1 a2 : Int) (M : zM) {Φ : Int → Prop} (hJ : jL_low a1 a2 M Φ) : zMet l yL_low cL_low 2 (some .int) 0 0 shX [zi a1, zi a2] M (zI (fun z M' => M = M' ∧ Φ z)) := by
  refine zq_enter [some (zi a1), some (zi a2)] (by decide) rfl (Nat.le_of_ble_eq_true rfl) rfl (fun X C => ?_)
  unfold jL_low at hJ
  refine zq_iload_n (i := 0) C dL_low_0 rfl rfl ?_
  refine zq_ldc (x := 2147483647) C kw_L_7 dL_low_1 rfl ik_2147483647 ?_
  refine zq_iand C dL_low_3 ?_
  refine zq_iload_n (i := 1) C dL_low_4 rfl rfl ?_
  obtain ⟨h1, h1', hJ⟩ := hJ
  refine zq_irem C dL_low_5 h1 h1' ?_
  exact zq_iret C rfl ⟨_, rfl, rfl, hJ⟩ dL_low_6
set_option maxRecDepth 100000 in
set_option maxHeartbeats 4000000 in
theorem wL_bar (l : Launch) (a2 : Int) (M : zM) {Φ : Int → zM → Prop} (hJ : jL_bar a2 M Φ) : zMet l yL_bar cL_bar 5 (some .int) 7 159 shX [zr 70, zi a2] M (zI Φ) := by
  refine zq_enter [some (zr 70), some (zi a2), none, none, none] (by decide) rfl (Nat.le_of_ble_eq_true rfl) rfl (fun X C => ?_)
  unfold jL_bar at hJ
  have hj64 : ∀ (M : zM), jL_bar_J64 a2 Φ M → zG X M 64 [some (zr 70), some (zi a2), none, none, none] [] := by
    intro M hJ
    unfold jL_bar_J64 at hJ
    refine zq_iconst (x := (-1)) C dL_bar_64 rfl ik_m1 ?_
    refine zq_goto (tgt := 69) C dL_bar_65 rfl ?_
    exact zq_iret C rfl ⟨_, rfl, hJ⟩ dL_bar_69
  have hj51 : ∀ (x2 x3 : Int) (M : zM), jL_bar_J51 a2 Φ x2 x3 M → zG X M 51 [some (zr 70), some (zi a2), some (zi x2), some (zi x3), none] [] := by
    intro x2 x3 M hJ
    unfold jL_bar_J51 at hJ
    refine zq_iload_n (i := 2) C dL_bar_51 rfl rfl ?_
    refine zq_if_eq (tgt := 64) C dL_bar_52 rfl (fun h8 => ?_) (fun h8 => ?_)
    · have hJ := hJ.1 h8
      refine zq_weak [some (zr 70), some (zi a2), none, none, none] ⟨Or.inr rfl, Or.inr rfl, Or.inl rfl, Or.inl rfl, Or.inl rfl, trivial⟩ ?_
      exact hj64 _ hJ
    · have hJ := hJ.2 h8
      refine zq_aload_n (i := 0) C dL_bar_55 rfl rfl ?_
      refine zq_iload_n (i := 3) C dL_bar_56 rfl rfl ?_
      refine zq_iconst (x := 0) C dL_bar_57 rfl ik_0 ?_
      refine zq_callVi C [zi x3, zi 0] (wB_barOf l _ _ _  hJ) ck_L_20 iv_X7_barOf rfl sx70 rfl rfl rfl rfl rfl rfl dL_bar_58 (fun r5 M6 hJ => ?_)
      refine zq_if_ge (tgt := 68) C dL_bar_61 rfl (fun h7 => ?_) (fun h7 => ?_)
      · have hJ := hJ.1 h7
        refine zq_iload_n (i := 3) C dL_bar_68 rfl rfl ?_
        exact zq_iret C rfl ⟨_, rfl, hJ⟩ dL_bar_69
      · have hJ := hJ.2 h7
        refine zq_weak [some (zr 70), some (zi a2), none, none, none] ⟨Or.inr rfl, Or.inr rfl, Or.inl rfl, Or.inl rfl, Or.inl rfl, trivial⟩ ?_
        exact hj64 _ hJ
  have hl24 : ∀ (x2 : Int) (s : Int × Int × zM), zwh (fun K s => jL_bar_L24 a2 K Φ x2 (s.1) (s.2.1) (s.2.2)) s → zG X (s.2.2) 24 [some (zr 70), some (zi a2), some (zi x2), some (zi (s.1)), some (zi (s.2.1))] [] := by
    intro x2
    refine zwh_sound ?_
    intro K24 s hK24 hJ
    obtain ⟨x3, x4, M⟩ := s
    have hJ : jL_bar_L24 a2 K24 Φ x2 x3 x4 M := hJ
    show zG X M 24 [some (zr 70), some (zi a2), some (zi x2), some (zi x3), some (zi x4)] []
    unfold jL_bar_L24 at hJ
    refine zq_iload C dL_bar_24 rfl ?_
    refine zq_iload_n (i := 2) C dL_bar_26 rfl rfl ?_
    refine zq_icmp_ge (tgt := 51) C dL_bar_27 rfl (fun h16 => ?_) (fun h16 => ?_)
    · have hJ := hJ.1 h16
      refine zq_weak [some (zr 70), some (zi a2), some (zi x2), some (zi x3), none] ⟨Or.inr rfl, Or.inr rfl, Or.inr rfl, Or.inr rfl, Or.inl rfl, trivial⟩ ?_
      exact hj51 _ _ _ hJ
    · have hJ := hJ.2 h16
      refine zq_aload_n (i := 0) C dL_bar_30 rfl rfl ?_
      refine zq_iload_n (i := 3) C dL_bar_31 rfl rfl ?_
      refine zq_iconst (x := 0) C dL_bar_32 rfl ik_0 ?_
      refine zq_callVi C [zi x3, zi 0] (wB_barOf l _ _ _  hJ) ck_L_20 iv_X7_barOf rfl sx70 rfl rfl rfl rfl rfl rfl dL_bar_33 (fun r9 M10 hJ => ?_)
      refine zq_if_ge (tgt := 51) C dL_bar_36 rfl (fun h15 => ?_) (fun h15 => ?_)
      · have hJ := hJ.1 h15
        refine zq_weak [some (zr 70), some (zi a2), some (zi x2), some (zi x3), none] ⟨Or.inr rfl, Or.inr rfl, Or.inr rfl, Or.inr rfl, Or.inl rfl, trivial⟩ ?_
        exact hj51 _ _ _ hJ
      · have hJ := hJ.2 h15
        refine zq_iload_n (i := 3) C dL_bar_39 rfl rfl ?_
        refine zq_iconst (x := 1) C dL_bar_40 rfl ik_1 ?_
        obtain ⟨h11, hJ⟩ := hJ
        refine zq_iadd C dL_bar_41 h11 ?_
        refine zq_iload_n (i := 2) C dL_bar_42 rfl rfl ?_
        obtain ⟨h12, h12', hJ⟩ := hJ
        refine zq_irem C dL_bar_43 h12 h12' ?_
        refine zq_istoreN_n (i := 3) C (fun v => [some (zr 70), some (zi a2), some (zi x2), some (zi v), some (zi x4)]) dL_bar_44 rfl (Nat.le_of_ble_eq_true rfl) (fun _ => rfl) (fun v3_13 hv3_13 => ?_)
        have hJ := hJ v3_13 hv3_13
        obtain ⟨hv4_14, hJ⟩ := hJ
        refine zq_iinc (y := x4 + 1) (lv' := [some (zr 70), some (zi a2), some (zi x2), some (zi v3_13), some (zi (x4 + 1))]) C dL_bar_45 rfl rfl hv4_14 rfl ?_
        obtain ⟨v4_14, ev4_14⟩ : ∃ z, z = x4 + 1 := ⟨_, rfl⟩
        rw [← ev4_14]
        have hJ := hJ v4_14 ev4_14
        refine zq_goto (tgt := 24) C dL_bar_48 rfl ?_
        exact hK24 _ hJ
  have hj20 : ∀ (x2 s0 : Int) (M : zM), jL_bar_J20 a2 Φ x2 s0 M → zG X M 20 [some (zr 70), some (zi a2), some (zi x2), none, none] [zi s0] := by
    intro x2 s0 M hJ
    unfold jL_bar_J20 at hJ
    refine zq_istore_n (i := 3) (lv' := [some (zr 70), some (zi a2), some (zi x2), some (zi s0), none]) C dL_bar_20 rfl (Nat.le_of_ble_eq_true rfl) rfl ?_
    refine zq_iconst (x := 0) C dL_bar_21 rfl ik_0 ?_
    refine zq_istore (lv' := [some (zr 70), some (zi a2), some (zi x2), some (zi s0), some (zi 0)]) C dL_bar_22 (Nat.le_of_ble_eq_true rfl) rfl ?_
    exact hl24 _ _ hJ
  refine zq_aload_n (i := 0) C dL_bar_0 rfl rfl ?_
  refine zq_bipush (x := 10) C dL_bar_1 bi_10 ik_10 ?_
  refine zq_callVi C [zi 10] (wB_count l _ _  hJ) ck_L_8 iv_X7_count rfl sx70 rfl rfl rfl rfl rfl rfl dL_bar_3 (fun r1 M2 hJ => ?_)
  refine zq_istore_n (i := 2) (lv' := [some (zr 70), some (zi a2), some (zi r1), none, none]) C dL_bar_6 rfl (Nat.le_of_ble_eq_true rfl) rfl ?_
  refine zq_iload_n (i := 2) C dL_bar_7 rfl rfl ?_
  refine zq_if_ne (tgt := 15) C dL_bar_8 rfl (fun h17 => ?_) (fun h17 => ?_)
  · have hJ := hJ.1 h17
    refine zq_iload_n (i := 1) C dL_bar_15 rfl rfl ?_
    refine zq_iload_n (i := 2) C dL_bar_16 rfl rfl ?_
    refine zq_callSi C [zi a2, zi r1] (wL_low l _ _ _  hJ) ck_L_14 st_L_low rfl rfl rfl rfl rfl rfl dL_bar_17 (fun r3 N4 hN4 => ?_)
    obtain ⟨rfl, hJ⟩ := hN4
    exact hj20 _ _ _ hJ
  · have hJ := hJ.2 h17
    refine zq_iconst (x := (-1)) C dL_bar_11 rfl ik_m1 ?_
    refine zq_goto (tgt := 20) C dL_bar_12 rfl ?_
    exact hj20 _ _ _ hJ
set_option maxRecDepth 100000 in
set_option maxHeartbeats 4000000 in
theorem wL_arrow (l : Launch) (a2 : Int) (M : zM) {Φ : Int → zM → Prop} (hJ : jL_arrow a2 M Φ) : zMet l yL_arrow cL_arrow 5 (some .int) 7 159 shX [zr 70, zi a2] M (zI Φ) := by
  refine zq_enter [some (zr 70), some (zi a2), none, none, none] (by decide) rfl (Nat.le_of_ble_eq_true rfl) rfl (fun X C => ?_)
  unfold jL_arrow at hJ
  have hj64 : ∀ (M : zM), jL_arrow_J64 a2 Φ M → zG X M 64 [some (zr 70), some (zi a2), none, none, none] [] := by
    intro M hJ
    unfold jL_arrow_J64 at hJ
    refine zq_iconst (x := (-1)) C dL_arrow_64 rfl ik_m1 ?_
    refine zq_goto (tgt := 69) C dL_arrow_65 rfl ?_
    exact zq_iret C rfl ⟨_, rfl, hJ⟩ dL_arrow_69
  have hj51 : ∀ (x2 x3 : Int) (M : zM), jL_arrow_J51 a2 Φ x2 x3 M → zG X M 51 [some (zr 70), some (zi a2), some (zi x2), some (zi x3), none] [] := by
    intro x2 x3 M hJ
    unfold jL_arrow_J51 at hJ
    refine zq_iload_n (i := 2) C dL_arrow_51 rfl rfl ?_
    refine zq_if_eq (tgt := 64) C dL_arrow_52 rfl (fun h8 => ?_) (fun h8 => ?_)
    · have hJ := hJ.1 h8
      refine zq_weak [some (zr 70), some (zi a2), none, none, none] ⟨Or.inr rfl, Or.inr rfl, Or.inl rfl, Or.inl rfl, Or.inl rfl, trivial⟩ ?_
      exact hj64 _ hJ
    · have hJ := hJ.2 h8
      refine zq_aload_n (i := 0) C dL_arrow_55 rfl rfl ?_
      refine zq_iload_n (i := 3) C dL_arrow_56 rfl rfl ?_
      refine zq_iconst (x := 0) C dL_arrow_57 rfl ik_0 ?_
      refine zq_callVi C [zi x3, zi 0] (wB_arrowOf l _ _ _  hJ) ck_L_23 iv_X7_arrowOf rfl sx70 rfl rfl rfl rfl rfl rfl dL_arrow_58 (fun r5 M6 hJ => ?_)
      refine zq_if_ge (tgt := 68) C dL_arrow_61 rfl (fun h7 => ?_) (fun h7 => ?_)
      · have hJ := hJ.1 h7
        refine zq_iload_n (i := 3) C dL_arrow_68 rfl rfl ?_
        exact zq_iret C rfl ⟨_, rfl, hJ⟩ dL_arrow_69
      · have hJ := hJ.2 h7
        refine zq_weak [some (zr 70), some (zi a2), none, none, none] ⟨Or.inr rfl, Or.inr rfl, Or.inl rfl, Or.inl rfl, Or.inl rfl, trivial⟩ ?_
        exact hj64 _ hJ
  have hl24 : ∀ (x2 : Int) (s : Int × Int × zM), zwh (fun K s => jL_arrow_L24 a2 K Φ x2 (s.1) (s.2.1) (s.2.2)) s → zG X (s.2.2) 24 [some (zr 70), some (zi a2), some (zi x2), some (zi (s.1)), some (zi (s.2.1))] [] := by
    intro x2
    refine zwh_sound ?_
    intro K24 s hK24 hJ
    obtain ⟨x3, x4, M⟩ := s
    have hJ : jL_arrow_L24 a2 K24 Φ x2 x3 x4 M := hJ
    show zG X M 24 [some (zr 70), some (zi a2), some (zi x2), some (zi x3), some (zi x4)] []
    unfold jL_arrow_L24 at hJ
    refine zq_iload C dL_arrow_24 rfl ?_
    refine zq_iload_n (i := 2) C dL_arrow_26 rfl rfl ?_
    refine zq_icmp_ge (tgt := 51) C dL_arrow_27 rfl (fun h16 => ?_) (fun h16 => ?_)
    · have hJ := hJ.1 h16
      refine zq_weak [some (zr 70), some (zi a2), some (zi x2), some (zi x3), none] ⟨Or.inr rfl, Or.inr rfl, Or.inr rfl, Or.inr rfl, Or.inl rfl, trivial⟩ ?_
      exact hj51 _ _ _ hJ
    · have hJ := hJ.2 h16
      refine zq_aload_n (i := 0) C dL_arrow_30 rfl rfl ?_
      refine zq_iload_n (i := 3) C dL_arrow_31 rfl rfl ?_
      refine zq_iconst (x := 0) C dL_arrow_32 rfl ik_0 ?_
      refine zq_callVi C [zi x3, zi 0] (wB_arrowOf l _ _ _  hJ) ck_L_23 iv_X7_arrowOf rfl sx70 rfl rfl rfl rfl rfl rfl dL_arrow_33 (fun r9 M10 hJ => ?_)
      refine zq_if_ge (tgt := 51) C dL_arrow_36 rfl (fun h15 => ?_) (fun h15 => ?_)
      · have hJ := hJ.1 h15
        refine zq_weak [some (zr 70), some (zi a2), some (zi x2), some (zi x3), none] ⟨Or.inr rfl, Or.inr rfl, Or.inr rfl, Or.inr rfl, Or.inl rfl, trivial⟩ ?_
        exact hj51 _ _ _ hJ
      · have hJ := hJ.2 h15
        refine zq_iload_n (i := 3) C dL_arrow_39 rfl rfl ?_
        refine zq_iconst (x := 1) C dL_arrow_40 rfl ik_1 ?_
        obtain ⟨h11, hJ⟩ := hJ
        refine zq_iadd C dL_arrow_41 h11 ?_
        refine zq_iload_n (i := 2) C dL_arrow_42 rfl rfl ?_
        obtain ⟨h12, h12', hJ⟩ := hJ
        refine zq_irem C dL_arrow_43 h12 h12' ?_
        refine zq_istoreN_n (i := 3) C (fun v => [some (zr 70), some (zi a2), some (zi x2), some (zi v), some (zi x4)]) dL_arrow_44 rfl (Nat.le_of_ble_eq_true rfl) (fun _ => rfl) (fun v3_13 hv3_13 => ?_)
        have hJ := hJ v3_13 hv3_13
        obtain ⟨hv4_14, hJ⟩ := hJ
        refine zq_iinc (y := x4 + 1) (lv' := [some (zr 70), some (zi a2), some (zi x2), some (zi v3_13), some (zi (x4 + 1))]) C dL_arrow_45 rfl rfl hv4_14 rfl ?_
        obtain ⟨v4_14, ev4_14⟩ : ∃ z, z = x4 + 1 := ⟨_, rfl⟩
        rw [← ev4_14]
        have hJ := hJ v4_14 ev4_14
        refine zq_goto (tgt := 24) C dL_arrow_48 rfl ?_
        exact hK24 _ hJ
  have hj20 : ∀ (x2 s0 : Int) (M : zM), jL_arrow_J20 a2 Φ x2 s0 M → zG X M 20 [some (zr 70), some (zi a2), some (zi x2), none, none] [zi s0] := by
    intro x2 s0 M hJ
    unfold jL_arrow_J20 at hJ
    refine zq_istore_n (i := 3) (lv' := [some (zr 70), some (zi a2), some (zi x2), some (zi s0), none]) C dL_arrow_20 rfl (Nat.le_of_ble_eq_true rfl) rfl ?_
    refine zq_iconst (x := 0) C dL_arrow_21 rfl ik_0 ?_
    refine zq_istore (lv' := [some (zr 70), some (zi a2), some (zi x2), some (zi s0), some (zi 0)]) C dL_arrow_22 (Nat.le_of_ble_eq_true rfl) rfl ?_
    exact hl24 _ _ hJ
  refine zq_aload_n (i := 0) C dL_arrow_0 rfl rfl ?_
  refine zq_bipush (x := 11) C dL_arrow_1 bi_11 ik_11 ?_
  refine zq_callVi C [zi 11] (wB_count l _ _  hJ) ck_L_8 iv_X7_count rfl sx70 rfl rfl rfl rfl rfl rfl dL_arrow_3 (fun r1 M2 hJ => ?_)
  refine zq_istore_n (i := 2) (lv' := [some (zr 70), some (zi a2), some (zi r1), none, none]) C dL_arrow_6 rfl (Nat.le_of_ble_eq_true rfl) rfl ?_
  refine zq_iload_n (i := 2) C dL_arrow_7 rfl rfl ?_
  refine zq_if_ne (tgt := 15) C dL_arrow_8 rfl (fun h17 => ?_) (fun h17 => ?_)
  · have hJ := hJ.1 h17
    refine zq_iload_n (i := 1) C dL_arrow_15 rfl rfl ?_
    refine zq_iload_n (i := 2) C dL_arrow_16 rfl rfl ?_
    refine zq_callSi C [zi a2, zi r1] (wL_low l _ _ _  hJ) ck_L_14 st_L_low rfl rfl rfl rfl rfl rfl dL_arrow_17 (fun r3 N4 hN4 => ?_)
    obtain ⟨rfl, hJ⟩ := hN4
    exact hj20 _ _ _ hJ
  · have hJ := hJ.2 h17
    refine zq_iconst (x := (-1)) C dL_arrow_11 rfl ik_m1 ?_
    refine zq_goto (tgt := 20) C dL_arrow_12 rfl ?_
    exact hj20 _ _ _ hJ
set_option maxRecDepth 100000 in
set_option maxHeartbeats 4000000 in
theorem wL_does (l : Launch) (a2 : Int) (M : zM) {Φ : Int → zM → Prop} (hJ : jL_does a2 M Φ) : zMet l yL_does cL_does 4 (some .int) 8 183 shX [zr 70, zi a2] M (zI Φ) := by
  refine zq_enter [some (zr 70), some (zi a2), none, none] (by decide) rfl (Nat.le_of_ble_eq_true rfl) rfl (fun X C => ?_)
  unfold jL_does at hJ
  have hj156 : ∀ (M : zM), jL_does_J156 a2 Φ M → zG X M 156 [some (zr 70), some (zi a2), none, none] [] := by
    intro M hJ
    unfold jL_does_J156 at hJ
    refine zq_iconst (x := 0) C dL_does_156 rfl ik_0 ?_
    refine zq_goto (tgt := 166) C dL_does_157 rfl ?_
    exact zq_iret C rfl ⟨_, rfl, hJ⟩ dL_does_166
  have hj347 : ∀ (s1 s2 : Int) (M : zM), jL_does_J347 a2 Φ s1 s2 M → zG X M 347 [some (zr 70), some (zi a2), none, none] [zi s2, zi s1, zr 70] := by
    intro s1 s2 M hJ
    unfold jL_does_J347 at hJ
    refine zq_callVi C [zi s1, zi s2] (wB_set l _ _ _  hJ) ck_L_55 iv_X7_set rfl sx70 rfl rfl rfl rfl rfl rfl dL_does_347 (fun r110 M111 hJ => ?_)
    exact zq_iret C rfl ⟨_, rfl, hJ⟩ dL_does_350
  have hj363 : ∀ (M : zM), jL_does_J363 a2 Φ M → zG X M 363 [some (zr 70), some (zi a2), none, none] [] := by
    intro M hJ
    unfold jL_does_J363 at hJ
    refine zq_aload_n (i := 0) C dL_does_363 rfl rfl ?_
    refine zq_iconst (x := 1) C dL_does_364 rfl ik_1 ?_
    refine zq_callVi C [zi 1] (wB_count l _ _  hJ) ck_L_8 iv_X7_count rfl sx70 rfl rfl rfl rfl rfl rfl dL_does_365 (fun r115 M116 hJ => ?_)
    refine zq_bipush (x := 6) C dL_does_368 bi_6 ik_6 ?_
    refine zq_icmp_le (tgt := 387) C dL_does_370 rfl (fun h121 => ?_) (fun h121 => ?_)
    · have hJ := hJ.1 h121
      refine zq_iconst (x := 0) C dL_does_387 rfl ik_0 ?_
      refine zq_goto (tgt := 410) C dL_does_388 rfl ?_
      exact zq_iret C rfl ⟨_, rfl, hJ⟩ dL_does_410
    · have hJ := hJ.2 h121
      refine zq_aload_n (i := 0) C dL_does_373 rfl rfl ?_
      refine zq_aload_n (i := 0) C dL_does_374 rfl rfl ?_
      refine zq_iload_n (i := 1) C dL_does_375 rfl rfl ?_
      refine zq_iconst (x := 5) C dL_does_376 rfl ik_5 ?_
      refine zq_ishr C dL_does_377 ?_
      refine zq_callSi C [zr 70, zi (zshr a2 5)] (wL_arrow l _ _  hJ) ck_L_58 st_L_arrow rfl rfl rfl rfl rfl rfl dL_does_378 (fun r117 M118 hJ => ?_)
      refine zq_callVi C [zi r117] (wB_takeArrow l _ _  hJ) ck_L_60 iv_X7_takeArrow rfl sx70 rfl rfl rfl rfl rfl rfl dL_does_381 (fun r119 M120 hJ => ?_)
      refine zq_goto (tgt := 410) C dL_does_384 rfl ?_
      exact zq_iret C rfl ⟨_, rfl, hJ⟩ dL_does_410
  refine zq_aload_n (i := 0) C dL_does_0 rfl rfl ?_
  refine zq_iload_n (i := 1) C dL_does_1 rfl rfl ?_
  refine zq_iconst (x := 4) C dL_does_2 rfl ik_4 ?_
  refine zq_ishr C dL_does_3 ?_
  refine zq_callSi C [zr 70, zi (zshr a2 4)] (wL_bar l _ _  hJ) ck_L_26 st_L_bar rfl rfl rfl rfl rfl rfl dL_does_4 (fun r1 M2 hJ => ?_)
  refine zq_istore_n (i := 2) (lv' := [some (zr 70), some (zi a2), some (zi r1), none]) C dL_does_7 rfl (Nat.le_of_ble_eq_true rfl) rfl ?_
  refine zq_aload_n (i := 0) C dL_does_8 rfl rfl ?_
  refine zq_iload_n (i := 1) C dL_does_9 rfl rfl ?_
  refine zq_bipush (x := 8) C dL_does_10 bi_8 ik_8 ?_
  refine zq_ishr C dL_does_12 ?_
  refine zq_callSi C [zr 70, zi (zshr a2 8)] (wL_bar l _ _  hJ) ck_L_26 st_L_bar rfl rfl rfl rfl rfl rfl dL_does_13 (fun r3 M4 hJ => ?_)
  refine zq_istore_n (i := 3) (lv' := [some (zr 70), some (zi a2), some (zi r1), some (zi r3)]) C dL_does_16 rfl (Nat.le_of_ble_eq_true rfl) rfl ?_
  refine zq_iload_n (i := 1) C dL_does_17 rfl rfl ?_
  refine zq_bipush (x := 15) C dL_does_18 bi_15 ik_15 ?_
  refine zq_iand C dL_does_20 ?_
  by_cases g0 : (zand a2 15) = 0
  · have hJ := hJ.1 g0
    refine zq_tabIn (tgt := 96) C dL_does_21 (by rw [g0]; decide) (by rw [g0]; decide) (by rw [g0]; rfl) rfl ?_
    refine zq_aload_n (i := 0) C dL_does_96 rfl rfl ?_
    refine zq_iconst (x := 0) C dL_does_97 rfl ik_0 ?_
    refine zq_callVi C [zi 0] (wB_count l _ _  hJ) ck_L_8 iv_X7_count rfl sx70 rfl rfl rfl rfl rfl rfl dL_does_98 (fun r5 M6 hJ => ?_)
    refine zq_bipush (x := 9) C dL_does_101 bi_9 ik_9 ?_
    refine zq_icmp_le (tgt := 110) C dL_does_103 rfl (fun h16 => ?_) (fun h16 => ?_)
    · have hJ := hJ.1 h16
      refine zq_aload_n (i := 0) C dL_does_110 rfl rfl ?_
      refine zq_iload_n (i := 1) C dL_does_111 rfl rfl ?_
      refine zq_iconst (x := 4) C dL_does_112 rfl ik_4 ?_
      refine zq_ishr C dL_does_113 ?_
      refine zq_iconst (x := 5) C dL_does_114 rfl ik_5 ?_
      refine zq_callSi C [zi (zshr a2 4), zi 5] (wL_low l _ _ _  hJ) ck_L_14 st_L_low rfl rfl rfl rfl rfl rfl dL_does_115 (fun r7 N8 hN8 => ?_)
      obtain ⟨rfl, hJ⟩ := hN8
      refine zq_iload_n (i := 1) C dL_does_118 rfl rfl ?_
      refine zq_bipush (x := 6) C dL_does_119 bi_6 ik_6 ?_
      refine zq_ishr C dL_does_121 ?_
      refine zq_bipush (x := 40) C dL_does_122 bi_40 ik_40 ?_
      refine zq_callSi C [zi (zshr a2 6), zi 40] (wL_low l _ _ _  hJ) ck_L_14 st_L_low rfl rfl rfl rfl rfl rfl dL_does_124 (fun r9 N10 hN10 => ?_)
      obtain ⟨rfl, hJ⟩ := hN10
      refine zq_iconst (x := 1) C dL_does_127 rfl ik_1 ?_
      refine zq_iload_n (i := 1) C dL_does_128 rfl rfl ?_
      refine zq_bipush (x := 9) C dL_does_129 bi_9 ik_9 ?_
      refine zq_ishr C dL_does_131 ?_
      refine zq_bipush (x := 8) C dL_does_132 bi_8 ik_8 ?_
      refine zq_callSi C [zi (zshr a2 9), zi 8] (wL_low l _ _ _  hJ) ck_L_14 st_L_low rfl rfl rfl rfl rfl rfl dL_does_134 (fun r11 N12 hN12 => ?_)
      obtain ⟨rfl, hJ⟩ := hN12
      obtain ⟨h13, hJ⟩ := hJ
      refine zq_iadd C dL_does_137 h13 ?_
      refine zq_callVi C [zi r7, zi r9, zi (1 + r11)] (wB_bar l _ _ _ _  hJ) ck_L_30 iv_X7_bar rfl sx70 rfl rfl rfl rfl rfl rfl dL_does_138 (fun r14 M15 hJ => ?_)
      exact zq_iret C rfl ⟨_, rfl, hJ⟩ dL_does_141
    · have hJ := hJ.2 h16
      refine zq_iconst (x := 0) C dL_does_106 rfl ik_0 ?_
      refine zq_goto (tgt := 141) C dL_does_107 rfl ?_
      exact zq_iret C rfl ⟨_, rfl, hJ⟩ dL_does_141
  have hJ := hJ.2 g0
  by_cases g1 : (zand a2 15) = 1
  · have hJ := hJ.1 g1
    refine zq_tabIn (tgt := 96) C dL_does_21 (by rw [g1]; decide) (by rw [g1]; decide) (by rw [g1]; rfl) rfl ?_
    refine zq_aload_n (i := 0) C dL_does_96 rfl rfl ?_
    refine zq_iconst (x := 0) C dL_does_97 rfl ik_0 ?_
    refine zq_callVi C [zi 0] (wB_count l _ _  hJ) ck_L_8 iv_X7_count rfl sx70 rfl rfl rfl rfl rfl rfl dL_does_98 (fun r17 M18 hJ => ?_)
    refine zq_bipush (x := 9) C dL_does_101 bi_9 ik_9 ?_
    refine zq_icmp_le (tgt := 110) C dL_does_103 rfl (fun h28 => ?_) (fun h28 => ?_)
    · have hJ := hJ.1 h28
      refine zq_aload_n (i := 0) C dL_does_110 rfl rfl ?_
      refine zq_iload_n (i := 1) C dL_does_111 rfl rfl ?_
      refine zq_iconst (x := 4) C dL_does_112 rfl ik_4 ?_
      refine zq_ishr C dL_does_113 ?_
      refine zq_iconst (x := 5) C dL_does_114 rfl ik_5 ?_
      refine zq_callSi C [zi (zshr a2 4), zi 5] (wL_low l _ _ _  hJ) ck_L_14 st_L_low rfl rfl rfl rfl rfl rfl dL_does_115 (fun r19 N20 hN20 => ?_)
      obtain ⟨rfl, hJ⟩ := hN20
      refine zq_iload_n (i := 1) C dL_does_118 rfl rfl ?_
      refine zq_bipush (x := 6) C dL_does_119 bi_6 ik_6 ?_
      refine zq_ishr C dL_does_121 ?_
      refine zq_bipush (x := 40) C dL_does_122 bi_40 ik_40 ?_
      refine zq_callSi C [zi (zshr a2 6), zi 40] (wL_low l _ _ _  hJ) ck_L_14 st_L_low rfl rfl rfl rfl rfl rfl dL_does_124 (fun r21 N22 hN22 => ?_)
      obtain ⟨rfl, hJ⟩ := hN22
      refine zq_iconst (x := 1) C dL_does_127 rfl ik_1 ?_
      refine zq_iload_n (i := 1) C dL_does_128 rfl rfl ?_
      refine zq_bipush (x := 9) C dL_does_129 bi_9 ik_9 ?_
      refine zq_ishr C dL_does_131 ?_
      refine zq_bipush (x := 8) C dL_does_132 bi_8 ik_8 ?_
      refine zq_callSi C [zi (zshr a2 9), zi 8] (wL_low l _ _ _  hJ) ck_L_14 st_L_low rfl rfl rfl rfl rfl rfl dL_does_134 (fun r23 N24 hN24 => ?_)
      obtain ⟨rfl, hJ⟩ := hN24
      obtain ⟨h25, hJ⟩ := hJ
      refine zq_iadd C dL_does_137 h25 ?_
      refine zq_callVi C [zi r19, zi r21, zi (1 + r23)] (wB_bar l _ _ _ _  hJ) ck_L_30 iv_X7_bar rfl sx70 rfl rfl rfl rfl rfl rfl dL_does_138 (fun r26 M27 hJ => ?_)
      exact zq_iret C rfl ⟨_, rfl, hJ⟩ dL_does_141
    · have hJ := hJ.2 h28
      refine zq_iconst (x := 0) C dL_does_106 rfl ik_0 ?_
      refine zq_goto (tgt := 141) C dL_does_107 rfl ?_
      exact zq_iret C rfl ⟨_, rfl, hJ⟩ dL_does_141
  have hJ := hJ.2 g1
  by_cases g2 : (zand a2 15) = 2
  · have hJ := hJ.1 g2
    refine zq_tabIn (tgt := 96) C dL_does_21 (by rw [g2]; decide) (by rw [g2]; decide) (by rw [g2]; rfl) rfl ?_
    refine zq_aload_n (i := 0) C dL_does_96 rfl rfl ?_
    refine zq_iconst (x := 0) C dL_does_97 rfl ik_0 ?_
    refine zq_callVi C [zi 0] (wB_count l _ _  hJ) ck_L_8 iv_X7_count rfl sx70 rfl rfl rfl rfl rfl rfl dL_does_98 (fun r29 M30 hJ => ?_)
    refine zq_bipush (x := 9) C dL_does_101 bi_9 ik_9 ?_
    refine zq_icmp_le (tgt := 110) C dL_does_103 rfl (fun h40 => ?_) (fun h40 => ?_)
    · have hJ := hJ.1 h40
      refine zq_aload_n (i := 0) C dL_does_110 rfl rfl ?_
      refine zq_iload_n (i := 1) C dL_does_111 rfl rfl ?_
      refine zq_iconst (x := 4) C dL_does_112 rfl ik_4 ?_
      refine zq_ishr C dL_does_113 ?_
      refine zq_iconst (x := 5) C dL_does_114 rfl ik_5 ?_
      refine zq_callSi C [zi (zshr a2 4), zi 5] (wL_low l _ _ _  hJ) ck_L_14 st_L_low rfl rfl rfl rfl rfl rfl dL_does_115 (fun r31 N32 hN32 => ?_)
      obtain ⟨rfl, hJ⟩ := hN32
      refine zq_iload_n (i := 1) C dL_does_118 rfl rfl ?_
      refine zq_bipush (x := 6) C dL_does_119 bi_6 ik_6 ?_
      refine zq_ishr C dL_does_121 ?_
      refine zq_bipush (x := 40) C dL_does_122 bi_40 ik_40 ?_
      refine zq_callSi C [zi (zshr a2 6), zi 40] (wL_low l _ _ _  hJ) ck_L_14 st_L_low rfl rfl rfl rfl rfl rfl dL_does_124 (fun r33 N34 hN34 => ?_)
      obtain ⟨rfl, hJ⟩ := hN34
      refine zq_iconst (x := 1) C dL_does_127 rfl ik_1 ?_
      refine zq_iload_n (i := 1) C dL_does_128 rfl rfl ?_
      refine zq_bipush (x := 9) C dL_does_129 bi_9 ik_9 ?_
      refine zq_ishr C dL_does_131 ?_
      refine zq_bipush (x := 8) C dL_does_132 bi_8 ik_8 ?_
      refine zq_callSi C [zi (zshr a2 9), zi 8] (wL_low l _ _ _  hJ) ck_L_14 st_L_low rfl rfl rfl rfl rfl rfl dL_does_134 (fun r35 N36 hN36 => ?_)
      obtain ⟨rfl, hJ⟩ := hN36
      obtain ⟨h37, hJ⟩ := hJ
      refine zq_iadd C dL_does_137 h37 ?_
      refine zq_callVi C [zi r31, zi r33, zi (1 + r35)] (wB_bar l _ _ _ _  hJ) ck_L_30 iv_X7_bar rfl sx70 rfl rfl rfl rfl rfl rfl dL_does_138 (fun r38 M39 hJ => ?_)
      exact zq_iret C rfl ⟨_, rfl, hJ⟩ dL_does_141
    · have hJ := hJ.2 h40
      refine zq_iconst (x := 0) C dL_does_106 rfl ik_0 ?_
      refine zq_goto (tgt := 141) C dL_does_107 rfl ?_
      exact zq_iret C rfl ⟨_, rfl, hJ⟩ dL_does_141
  have hJ := hJ.2 g2
  by_cases g3 : (zand a2 15) = 3
  · have hJ := hJ.1 g3
    refine zq_tabIn (tgt := 142) C dL_does_21 (by rw [g3]; decide) (by rw [g3]; decide) (by rw [g3]; rfl) rfl ?_
    refine zq_iload_n (i := 2) C dL_does_142 rfl rfl ?_
    refine zq_if_lt (tgt := 156) C dL_does_143 rfl (fun h46 => ?_) (fun h46 => ?_)
    · have hJ := hJ.1 h46
      refine zq_weak [some (zr 70), some (zi a2), none, none] ⟨Or.inr rfl, Or.inr rfl, Or.inl rfl, Or.inl rfl, trivial⟩ ?_
      exact hj156 _ hJ
    · have hJ := hJ.2 h46
      refine zq_aload_n (i := 0) C dL_does_146 rfl rfl ?_
      refine zq_iconst (x := 1) C dL_does_147 rfl ik_1 ?_
      refine zq_callVi C [zi 1] (wB_count l _ _  hJ) ck_L_8 iv_X7_count rfl sx70 rfl rfl rfl rfl rfl rfl dL_does_148 (fun r41 M42 hJ => ?_)
      refine zq_bipush (x := 11) C dL_does_151 bi_11 ik_11 ?_
      refine zq_icmp_le (tgt := 160) C dL_does_153 rfl (fun h45 => ?_) (fun h45 => ?_)
      · have hJ := hJ.1 h45
        refine zq_aload_n (i := 0) C dL_does_160 rfl rfl ?_
        refine zq_iload_n (i := 2) C dL_does_161 rfl rfl ?_
        refine zq_iload_n (i := 3) C dL_does_162 rfl rfl ?_
        refine zq_callVi C [zi r1, zi r3] (wB_arrow l _ _ _  hJ) ck_L_33 iv_X7_arrow rfl sx70 rfl rfl rfl rfl rfl rfl dL_does_163 (fun r43 M44 hJ => ?_)
        exact zq_iret C rfl ⟨_, rfl, hJ⟩ dL_does_166
      · have hJ := hJ.2 h45
        refine zq_weak [some (zr 70), some (zi a2), none, none] ⟨Or.inr rfl, Or.inr rfl, Or.inl rfl, Or.inl rfl, trivial⟩ ?_
        exact hj156 _ hJ
  have hJ := hJ.2 g3
  by_cases g4 : (zand a2 15) = 4
  · have hJ := hJ.1 g4
    refine zq_tabIn (tgt := 142) C dL_does_21 (by rw [g4]; decide) (by rw [g4]; decide) (by rw [g4]; rfl) rfl ?_
    refine zq_iload_n (i := 2) C dL_does_142 rfl rfl ?_
    refine zq_if_lt (tgt := 156) C dL_does_143 rfl (fun h52 => ?_) (fun h52 => ?_)
    · have hJ := hJ.1 h52
      refine zq_weak [some (zr 70), some (zi a2), none, none] ⟨Or.inr rfl, Or.inr rfl, Or.inl rfl, Or.inl rfl, trivial⟩ ?_
      exact hj156 _ hJ
    · have hJ := hJ.2 h52
      refine zq_aload_n (i := 0) C dL_does_146 rfl rfl ?_
      refine zq_iconst (x := 1) C dL_does_147 rfl ik_1 ?_
      refine zq_callVi C [zi 1] (wB_count l _ _  hJ) ck_L_8 iv_X7_count rfl sx70 rfl rfl rfl rfl rfl rfl dL_does_148 (fun r47 M48 hJ => ?_)
      refine zq_bipush (x := 11) C dL_does_151 bi_11 ik_11 ?_
      refine zq_icmp_le (tgt := 160) C dL_does_153 rfl (fun h51 => ?_) (fun h51 => ?_)
      · have hJ := hJ.1 h51
        refine zq_aload_n (i := 0) C dL_does_160 rfl rfl ?_
        refine zq_iload_n (i := 2) C dL_does_161 rfl rfl ?_
        refine zq_iload_n (i := 3) C dL_does_162 rfl rfl ?_
        refine zq_callVi C [zi r1, zi r3] (wB_arrow l _ _ _  hJ) ck_L_33 iv_X7_arrow rfl sx70 rfl rfl rfl rfl rfl rfl dL_does_163 (fun r49 M50 hJ => ?_)
        exact zq_iret C rfl ⟨_, rfl, hJ⟩ dL_does_166
      · have hJ := hJ.2 h51
        refine zq_weak [some (zr 70), some (zi a2), none, none] ⟨Or.inr rfl, Or.inr rfl, Or.inl rfl, Or.inl rfl, trivial⟩ ?_
        exact hj156 _ hJ
  have hJ := hJ.2 g4
  by_cases g5 : (zand a2 15) = 5
  · have hJ := hJ.1 g5
    refine zq_tabIn (tgt := 142) C dL_does_21 (by rw [g5]; decide) (by rw [g5]; decide) (by rw [g5]; rfl) rfl ?_
    refine zq_iload_n (i := 2) C dL_does_142 rfl rfl ?_
    refine zq_if_lt (tgt := 156) C dL_does_143 rfl (fun h58 => ?_) (fun h58 => ?_)
    · have hJ := hJ.1 h58
      refine zq_weak [some (zr 70), some (zi a2), none, none] ⟨Or.inr rfl, Or.inr rfl, Or.inl rfl, Or.inl rfl, trivial⟩ ?_
      exact hj156 _ hJ
    · have hJ := hJ.2 h58
      refine zq_aload_n (i := 0) C dL_does_146 rfl rfl ?_
      refine zq_iconst (x := 1) C dL_does_147 rfl ik_1 ?_
      refine zq_callVi C [zi 1] (wB_count l _ _  hJ) ck_L_8 iv_X7_count rfl sx70 rfl rfl rfl rfl rfl rfl dL_does_148 (fun r53 M54 hJ => ?_)
      refine zq_bipush (x := 11) C dL_does_151 bi_11 ik_11 ?_
      refine zq_icmp_le (tgt := 160) C dL_does_153 rfl (fun h57 => ?_) (fun h57 => ?_)
      · have hJ := hJ.1 h57
        refine zq_aload_n (i := 0) C dL_does_160 rfl rfl ?_
        refine zq_iload_n (i := 2) C dL_does_161 rfl rfl ?_
        refine zq_iload_n (i := 3) C dL_does_162 rfl rfl ?_
        refine zq_callVi C [zi r1, zi r3] (wB_arrow l _ _ _  hJ) ck_L_33 iv_X7_arrow rfl sx70 rfl rfl rfl rfl rfl rfl dL_does_163 (fun r55 M56 hJ => ?_)
        exact zq_iret C rfl ⟨_, rfl, hJ⟩ dL_does_166
      · have hJ := hJ.2 h57
        refine zq_weak [some (zr 70), some (zi a2), none, none] ⟨Or.inr rfl, Or.inr rfl, Or.inl rfl, Or.inl rfl, trivial⟩ ?_
        exact hj156 _ hJ
  have hJ := hJ.2 g5
  by_cases g6 : (zand a2 15) = 6
  · have hJ := hJ.1 g6
    refine zq_tabIn (tgt := 167) C dL_does_21 (by rw [g6]; decide) (by rw [g6]; decide) (by rw [g6]; rfl) rfl ?_
    refine zq_iload_n (i := 2) C dL_does_167 rfl rfl ?_
    refine zq_if_ge (tgt := 175) C dL_does_168 rfl (fun h65 => ?_) (fun h65 => ?_)
    · have hJ := hJ.1 h65
      refine zq_aload_n (i := 0) C dL_does_175 rfl rfl ?_
      refine zq_iload_n (i := 2) C dL_does_176 rfl rfl ?_
      refine zq_iload_n (i := 1) C dL_does_177 rfl rfl ?_
      refine zq_iconst (x := 5) C dL_does_178 rfl ik_5 ?_
      refine zq_ishr C dL_does_179 ?_
      refine zq_iconst (x := 5) C dL_does_180 rfl ik_5 ?_
      refine zq_callSi C [zi (zshr a2 5), zi 5] (wL_low l _ _ _  hJ) ck_L_14 st_L_low rfl rfl rfl rfl rfl rfl dL_does_181 (fun r59 N60 hN60 => ?_)
      obtain ⟨rfl, hJ⟩ := hN60
      refine zq_iload_n (i := 1) C dL_does_184 rfl rfl ?_
      refine zq_bipush (x := 7) C dL_does_185 bi_7 ik_7 ?_
      refine zq_ishr C dL_does_187 ?_
      refine zq_bipush (x := 50) C dL_does_188 bi_50 ik_50 ?_
      refine zq_callSi C [zi (zshr a2 7), zi 50] (wL_low l _ _ _  hJ) ck_L_14 st_L_low rfl rfl rfl rfl rfl rfl dL_does_190 (fun r61 N62 hN62 => ?_)
      obtain ⟨rfl, hJ⟩ := hN62
      refine zq_callVi C [zi r1, zi r59, zi r61] (wB_move l _ _ _ _  hJ) ck_L_36 iv_X7_move rfl sx70 rfl rfl rfl rfl rfl rfl dL_does_193 (fun r63 M64 hJ => ?_)
      exact zq_iret C rfl ⟨_, rfl, hJ⟩ dL_does_196
    · have hJ := hJ.2 h65
      refine zq_iconst (x := 0) C dL_does_171 rfl ik_0 ?_
      refine zq_goto (tgt := 196) C dL_does_172 rfl ?_
      exact zq_iret C rfl ⟨_, rfl, hJ⟩ dL_does_196
  have hJ := hJ.2 g6
  by_cases g7 : (zand a2 15) = 7
  · have hJ := hJ.1 g7
    refine zq_tabIn (tgt := 167) C dL_does_21 (by rw [g7]; decide) (by rw [g7]; decide) (by rw [g7]; rfl) rfl ?_
    refine zq_iload_n (i := 2) C dL_does_167 rfl rfl ?_
    refine zq_if_ge (tgt := 175) C dL_does_168 rfl (fun h72 => ?_) (fun h72 => ?_)
    · have hJ := hJ.1 h72
      refine zq_aload_n (i := 0) C dL_does_175 rfl rfl ?_
      refine zq_iload_n (i := 2) C dL_does_176 rfl rfl ?_
      refine zq_iload_n (i := 1) C dL_does_177 rfl rfl ?_
      refine zq_iconst (x := 5) C dL_does_178 rfl ik_5 ?_
      refine zq_ishr C dL_does_179 ?_
      refine zq_iconst (x := 5) C dL_does_180 rfl ik_5 ?_
      refine zq_callSi C [zi (zshr a2 5), zi 5] (wL_low l _ _ _  hJ) ck_L_14 st_L_low rfl rfl rfl rfl rfl rfl dL_does_181 (fun r66 N67 hN67 => ?_)
      obtain ⟨rfl, hJ⟩ := hN67
      refine zq_iload_n (i := 1) C dL_does_184 rfl rfl ?_
      refine zq_bipush (x := 7) C dL_does_185 bi_7 ik_7 ?_
      refine zq_ishr C dL_does_187 ?_
      refine zq_bipush (x := 50) C dL_does_188 bi_50 ik_50 ?_
      refine zq_callSi C [zi (zshr a2 7), zi 50] (wL_low l _ _ _  hJ) ck_L_14 st_L_low rfl rfl rfl rfl rfl rfl dL_does_190 (fun r68 N69 hN69 => ?_)
      obtain ⟨rfl, hJ⟩ := hN69
      refine zq_callVi C [zi r1, zi r66, zi r68] (wB_move l _ _ _ _  hJ) ck_L_36 iv_X7_move rfl sx70 rfl rfl rfl rfl rfl rfl dL_does_193 (fun r70 M71 hJ => ?_)
      exact zq_iret C rfl ⟨_, rfl, hJ⟩ dL_does_196
    · have hJ := hJ.2 h72
      refine zq_iconst (x := 0) C dL_does_171 rfl ik_0 ?_
      refine zq_goto (tgt := 196) C dL_does_172 rfl ?_
      exact zq_iret C rfl ⟨_, rfl, hJ⟩ dL_does_196
  have hJ := hJ.2 g7
  by_cases g8 : (zand a2 15) = 8
  · have hJ := hJ.1 g8
    refine zq_tabIn (tgt := 197) C dL_does_21 (by rw [g8]; decide) (by rw [g8]; decide) (by rw [g8]; rfl) rfl ?_
    refine zq_aload_n (i := 0) C dL_does_197 rfl rfl ?_
    refine zq_iload_n (i := 1) C dL_does_198 rfl rfl ?_
    refine zq_iconst (x := 4) C dL_does_199 rfl ik_4 ?_
    refine zq_ishr C dL_does_200 ?_
    refine zq_bipush (x := 6) C dL_does_201 bi_6 ik_6 ?_
    refine zq_callSi C [zi (zshr a2 4), zi 6] (wL_low l _ _ _  hJ) ck_L_14 st_L_low rfl rfl rfl rfl rfl rfl dL_does_203 (fun r73 N74 hN74 => ?_)
    obtain ⟨rfl, hJ⟩ := hN74
    refine zq_iload_n (i := 1) C dL_does_206 rfl rfl ?_
    refine zq_bipush (x := 7) C dL_does_207 bi_7 ik_7 ?_
    refine zq_ishr C dL_does_209 ?_
    refine zq_bipush (x := 6) C dL_does_210 bi_6 ik_6 ?_
    refine zq_callSi C [zi (zshr a2 7), zi 6] (wL_low l _ _ _  hJ) ck_L_14 st_L_low rfl rfl rfl rfl rfl rfl dL_does_212 (fun r75 N76 hN76 => ?_)
    obtain ⟨rfl, hJ⟩ := hN76
    refine zq_callVi C [zi r73, zi r75] (wB_swap l _ _ _  hJ) ck_L_39 iv_X7_swap rfl sx70 rfl rfl rfl rfl rfl rfl dL_does_215 (fun r77 M78 hJ => ?_)
    exact zq_iret C rfl ⟨_, rfl, hJ⟩ dL_does_218
  have hJ := hJ.2 g8
  by_cases g9 : (zand a2 15) = 9
  · have hJ := hJ.1 g9
    refine zq_tabIn (tgt := 219) C dL_does_21 (by rw [g9]; decide) (by rw [g9]; decide) (by rw [g9]; rfl) rfl ?_
    refine zq_iload_n (i := 1) C dL_does_219 rfl rfl ?_
    refine zq_iconst (x := 4) C dL_does_220 rfl ik_4 ?_
    refine zq_ishr C dL_does_221 ?_
    refine zq_iconst (x := 3) C dL_does_222 rfl ik_3 ?_
    refine zq_iand C dL_does_223 ?_
    refine zq_if_ne (tgt := 234) C dL_does_224 rfl (fun h81 => ?_) (fun h81 => ?_)
    · have hJ := hJ.1 h81
      refine zq_iconst (x := 0) C dL_does_234 rfl ik_0 ?_
      exact zq_iret C rfl ⟨_, rfl, hJ⟩ dL_does_235
    · have hJ := hJ.2 h81
      refine zq_aload_n (i := 0) C dL_does_227 rfl rfl ?_
      refine zq_callVi C [] (wB_pack l _  hJ) ck_L_42 iv_X7_pack rfl sx70 rfl rfl rfl rfl rfl rfl dL_does_228 (fun r79 M80 hJ => ?_)
      refine zq_goto (tgt := 235) C dL_does_231 rfl ?_
      exact zq_iret C rfl ⟨_, rfl, hJ⟩ dL_does_235
  have hJ := hJ.2 g9
  by_cases g10 : (zand a2 15) = 10
  · have hJ := hJ.1 g10
    refine zq_tabIn (tgt := 236) C dL_does_21 (by rw [g10]; decide) (by rw [g10]; decide) (by rw [g10]; rfl) rfl ?_
    refine zq_iload_n (i := 2) C dL_does_236 rfl rfl ?_
    refine zq_if_ge (tgt := 244) C dL_does_237 rfl (fun h87 => ?_) (fun h87 => ?_)
    · have hJ := hJ.1 h87
      refine zq_aload_n (i := 0) C dL_does_244 rfl rfl ?_
      refine zq_iload_n (i := 2) C dL_does_245 rfl rfl ?_
      refine zq_iconst (x := 1) C dL_does_246 rfl ik_1 ?_
      refine zq_iload_n (i := 1) C dL_does_247 rfl rfl ?_
      refine zq_bipush (x := 8) C dL_does_248 bi_8 ik_8 ?_
      refine zq_ishr C dL_does_250 ?_
      refine zq_bipush (x := 12) C dL_does_251 bi_12 ik_12 ?_
      refine zq_callSi C [zi (zshr a2 8), zi 12] (wL_low l _ _ _  hJ) ck_L_14 st_L_low rfl rfl rfl rfl rfl rfl dL_does_253 (fun r82 N83 hN83 => ?_)
      obtain ⟨rfl, hJ⟩ := hN83
      obtain ⟨h84, hJ⟩ := hJ
      refine zq_iadd C dL_does_256 h84 ?_
      refine zq_callVi C [zi r1, zi (1 + r82)] (wB_slip l _ _ _  hJ) ck_L_46 iv_X7_slip rfl sx70 rfl rfl rfl rfl rfl rfl dL_does_257 (fun r85 M86 hJ => ?_)
      exact zq_iret C rfl ⟨_, rfl, hJ⟩ dL_does_260
    · have hJ := hJ.2 h87
      refine zq_iconst (x := 0) C dL_does_240 rfl ik_0 ?_
      refine zq_goto (tgt := 260) C dL_does_241 rfl ?_
      exact zq_iret C rfl ⟨_, rfl, hJ⟩ dL_does_260
  have hJ := hJ.2 g10
  by_cases g11 : (zand a2 15) = 11
  · have hJ := hJ.1 g11
    refine zq_tabIn (tgt := 236) C dL_does_21 (by rw [g11]; decide) (by rw [g11]; decide) (by rw [g11]; rfl) rfl ?_
    refine zq_iload_n (i := 2) C dL_does_236 rfl rfl ?_
    refine zq_if_ge (tgt := 244) C dL_does_237 rfl (fun h93 => ?_) (fun h93 => ?_)
    · have hJ := hJ.1 h93
      refine zq_aload_n (i := 0) C dL_does_244 rfl rfl ?_
      refine zq_iload_n (i := 2) C dL_does_245 rfl rfl ?_
      refine zq_iconst (x := 1) C dL_does_246 rfl ik_1 ?_
      refine zq_iload_n (i := 1) C dL_does_247 rfl rfl ?_
      refine zq_bipush (x := 8) C dL_does_248 bi_8 ik_8 ?_
      refine zq_ishr C dL_does_250 ?_
      refine zq_bipush (x := 12) C dL_does_251 bi_12 ik_12 ?_
      refine zq_callSi C [zi (zshr a2 8), zi 12] (wL_low l _ _ _  hJ) ck_L_14 st_L_low rfl rfl rfl rfl rfl rfl dL_does_253 (fun r88 N89 hN89 => ?_)
      obtain ⟨rfl, hJ⟩ := hN89
      obtain ⟨h90, hJ⟩ := hJ
      refine zq_iadd C dL_does_256 h90 ?_
      refine zq_callVi C [zi r1, zi (1 + r88)] (wB_slip l _ _ _  hJ) ck_L_46 iv_X7_slip rfl sx70 rfl rfl rfl rfl rfl rfl dL_does_257 (fun r91 M92 hJ => ?_)
      exact zq_iret C rfl ⟨_, rfl, hJ⟩ dL_does_260
    · have hJ := hJ.2 h93
      refine zq_iconst (x := 0) C dL_does_240 rfl ik_0 ?_
      refine zq_goto (tgt := 260) C dL_does_241 rfl ?_
      exact zq_iret C rfl ⟨_, rfl, hJ⟩ dL_does_260
  have hJ := hJ.2 g11
  by_cases g12 : (zand a2 15) = 12
  · have hJ := hJ.1 g12
    refine zq_tabIn (tgt := 261) C dL_does_21 (by rw [g12]; decide) (by rw [g12]; decide) (by rw [g12]; rfl) rfl ?_
    refine zq_iload_n (i := 2) C dL_does_261 rfl rfl ?_
    refine zq_if_ge (tgt := 269) C dL_does_262 rfl (fun h96 => ?_) (fun h96 => ?_)
    · have hJ := hJ.1 h96
      refine zq_aload_n (i := 0) C dL_does_269 rfl rfl ?_
      refine zq_iload_n (i := 2) C dL_does_270 rfl rfl ?_
      refine zq_callVi C [zi r1] (wB_pull l _ _  hJ) ck_L_49 iv_X7_pull rfl sx70 rfl rfl rfl rfl rfl rfl dL_does_271 (fun r94 M95 hJ => ?_)
      exact zq_iret C rfl ⟨_, rfl, hJ⟩ dL_does_274
    · have hJ := hJ.2 h96
      refine zq_iconst (x := 0) C dL_does_265 rfl ik_0 ?_
      refine zq_goto (tgt := 274) C dL_does_266 rfl ?_
      exact zq_iret C rfl ⟨_, rfl, hJ⟩ dL_does_274
  have hJ := hJ.2 g12
  by_cases g13 : (zand a2 15) = 13
  · have hJ := hJ.1 g13
    refine zq_tabIn (tgt := 275) C dL_does_21 (by rw [g13]; decide) (by rw [g13]; decide) (by rw [g13]; rfl) rfl ?_
    refine zq_aload_n (i := 0) C dL_does_275 rfl rfl ?_
    refine zq_iload_n (i := 1) C dL_does_276 rfl rfl ?_
    refine zq_iconst (x := 4) C dL_does_277 rfl ik_4 ?_
    refine zq_ishr C dL_does_278 ?_
    refine zq_bipush (x := 60) C dL_does_279 bi_60 ik_60 ?_
    refine zq_callSi C [zi (zshr a2 4), zi 60] (wL_low l _ _ _  hJ) ck_L_14 st_L_low rfl rfl rfl rfl rfl rfl dL_does_281 (fun r97 N98 hN98 => ?_)
    obtain ⟨rfl, hJ⟩ := hN98
    refine zq_bipush (x := 60) C dL_does_284 bi_60 ik_60 ?_
    refine zq_iload_n (i := 1) C dL_does_286 rfl rfl ?_
    refine zq_bipush (x := 6) C dL_does_287 bi_6 ik_6 ?_
    refine zq_ishr C dL_does_289 ?_
    refine zq_sipush (x := 140) C dL_does_290 si_140 ik_140 ?_
    refine zq_callSi C [zi (zshr a2 6), zi 140] (wL_low l _ _ _  hJ) ck_L_14 st_L_low rfl rfl rfl rfl rfl rfl dL_does_293 (fun r99 N100 hN100 => ?_)
    obtain ⟨rfl, hJ⟩ := hN100
    obtain ⟨h101, hJ⟩ := hJ
    refine zq_iadd C dL_does_296 h101 ?_
    refine zq_iconst (x := 1) C dL_does_297 rfl ik_1 ?_
    refine zq_iload_n (i := 1) C dL_does_298 rfl rfl ?_
    refine zq_bipush (x := 8) C dL_does_299 bi_8 ik_8 ?_
    refine zq_ishr C dL_does_301 ?_
    refine zq_bipush (x := 9) C dL_does_302 bi_9 ik_9 ?_
    refine zq_callSi C [zi (zshr a2 8), zi 9] (wL_low l _ _ _  hJ) ck_L_14 st_L_low rfl rfl rfl rfl rfl rfl dL_does_304 (fun r102 N103 hN103 => ?_)
    obtain ⟨rfl, hJ⟩ := hN103
    obtain ⟨h104, hJ⟩ := hJ
    refine zq_iadd C dL_does_307 h104 ?_
    refine zq_callVi C [zi r97, zi (60 + r99), zi (1 + r102)] (wB_width l _ _ _ _  hJ) ck_L_52 iv_X7_width rfl sx70 rfl rfl rfl rfl rfl rfl dL_does_308 (fun r105 M106 hJ => ?_)
    exact zq_iret C rfl ⟨_, rfl, hJ⟩ dL_does_311
  have hJ := hJ.2 g13
  by_cases g14 : (zand a2 15) = 14
  · have hJ := hJ.1 g14
    refine zq_tabIn (tgt := 312) C dL_does_21 (by rw [g14]; decide) (by rw [g14]; decide) (by rw [g14]; rfl) rfl ?_
    refine zq_aload_n (i := 0) C dL_does_312 rfl rfl ?_
    refine zq_iload_n (i := 1) C dL_does_313 rfl rfl ?_
    refine zq_iconst (x := 4) C dL_does_314 rfl ik_4 ?_
    refine zq_ishr C dL_does_315 ?_
    refine zq_iconst (x := 1) C dL_does_316 rfl ik_1 ?_
    refine zq_iand C dL_does_317 ?_
    refine zq_iload_n (i := 1) C dL_does_318 rfl rfl ?_
    refine zq_iconst (x := 4) C dL_does_319 rfl ik_4 ?_
    refine zq_ishr C dL_does_320 ?_
    refine zq_iconst (x := 1) C dL_does_321 rfl ik_1 ?_
    refine zq_iand C dL_does_322 ?_
    refine zq_if_ne (tgt := 336) C dL_does_323 rfl (fun h114 => ?_) (fun h114 => ?_)
    · have hJ := hJ.1 h114
      refine zq_bipush (x := 10) C dL_does_336 bi_10 ik_10 ?_
      refine zq_iload_n (i := 1) C dL_does_338 rfl rfl ?_
      refine zq_iconst (x := 5) C dL_does_339 rfl ik_5 ?_
      refine zq_ishr C dL_does_340 ?_
      refine zq_bipush (x := 80) C dL_does_341 bi_80 ik_80 ?_
      refine zq_callSi C [zi (zshr a2 5), zi 80] (wL_low l _ _ _  hJ) ck_L_14 st_L_low rfl rfl rfl rfl rfl rfl dL_does_343 (fun r107 N108 hN108 => ?_)
      obtain ⟨rfl, hJ⟩ := hN108
      obtain ⟨h109, hJ⟩ := hJ
      refine zq_iadd C dL_does_346 h109 ?_
      refine zq_weak [some (zr 70), some (zi a2), none, none] ⟨Or.inr rfl, Or.inr rfl, Or.inl rfl, Or.inl rfl, trivial⟩ ?_
      exact hj347 _ _ _ hJ
    · have hJ := hJ.2 h114
      refine zq_iload_n (i := 1) C dL_does_326 rfl rfl ?_
      refine zq_iconst (x := 5) C dL_does_327 rfl ik_5 ?_
      refine zq_ishr C dL_does_328 ?_
      refine zq_iconst (x := 3) C dL_does_329 rfl ik_3 ?_
      refine zq_callSi C [zi (zshr a2 5), zi 3] (wL_low l _ _ _  hJ) ck_L_14 st_L_low rfl rfl rfl rfl rfl rfl dL_does_330 (fun r112 N113 hN113 => ?_)
      obtain ⟨rfl, hJ⟩ := hN113
      refine zq_goto (tgt := 347) C dL_does_333 rfl ?_
      refine zq_weak [some (zr 70), some (zi a2), none, none] ⟨Or.inr rfl, Or.inr rfl, Or.inl rfl, Or.inl rfl, trivial⟩ ?_
      exact hj347 _ _ _ hJ
  have hJ := hJ.2 g14
  refine zq_tabOut (tgt := 351) C dL_does_21 (zto15 g0 g1 g2 g3 g4 g5 g6 g7 g8 g9 g10 g11 g12 g13 g14) rfl ?_
  refine zq_iload_n (i := 2) C dL_does_351 rfl rfl ?_
  refine zq_if_lt (tgt := 363) C dL_does_352 rfl (fun h128 => ?_) (fun h128 => ?_)
  · have hJ := hJ.1 h128
    refine zq_weak [some (zr 70), some (zi a2), none, none] ⟨Or.inr rfl, Or.inr rfl, Or.inl rfl, Or.inl rfl, trivial⟩ ?_
    exact hj363 _ hJ
  · have hJ := hJ.2 h128
    refine zq_iload_n (i := 1) C dL_does_355 rfl rfl ?_
    refine zq_iconst (x := 4) C dL_does_356 rfl ik_4 ?_
    refine zq_ishr C dL_does_357 ?_
    refine zq_iconst (x := 1) C dL_does_358 rfl ik_1 ?_
    refine zq_iand C dL_does_359 ?_
    refine zq_if_ne (tgt := 391) C dL_does_360 rfl (fun h127 => ?_) (fun h127 => ?_)
    · have hJ := hJ.1 h127
      refine zq_aload_n (i := 0) C dL_does_391 rfl rfl ?_
      refine zq_iconst (x := 0) C dL_does_392 rfl ik_0 ?_
      refine zq_callVi C [zi 0] (wB_count l _ _  hJ) ck_L_8 iv_X7_count rfl sx70 rfl rfl rfl rfl rfl rfl dL_does_393 (fun r122 M123 hJ => ?_)
      refine zq_bipush (x := 6) C dL_does_396 bi_6 ik_6 ?_
      refine zq_icmp_le (tgt := 409) C dL_does_398 rfl (fun h126 => ?_) (fun h126 => ?_)
      · have hJ := hJ.1 h126
        refine zq_iconst (x := 0) C dL_does_409 rfl ik_0 ?_
        exact zq_iret C rfl ⟨_, rfl, hJ⟩ dL_does_410
      · have hJ := hJ.2 h126
        refine zq_aload_n (i := 0) C dL_does_401 rfl rfl ?_
        refine zq_iload_n (i := 2) C dL_does_402 rfl rfl ?_
        refine zq_callVi C [zi r1] (wB_takeBar l _ _  hJ) ck_L_63 iv_X7_takeBar rfl sx70 rfl rfl rfl rfl rfl rfl dL_does_403 (fun r124 M125 hJ => ?_)
        refine zq_goto (tgt := 410) C dL_does_406 rfl ?_
        exact zq_iret C rfl ⟨_, rfl, hJ⟩ dL_does_410
    · have hJ := hJ.2 h127
      refine zq_weak [some (zr 70), some (zi a2), none, none] ⟨Or.inr rfl, Or.inr rfl, Or.inl rfl, Or.inl rfl, trivial⟩ ?_
      exact hj363 _ hJ
