set_option maxRecDepth 100000 in
set_option maxHeartbeats 4000000 in
theorem wP_slipFrom (l : Launch) {c1 : Nat} (hc1 : zCh c1) (a2 a3 : Int) (M : zM) {Φ : Int → zM → Prop} (hJ : jP_slipFrom c1 a2 a3 M Φ) : zMet l yX5_slipFrom cX5_slipFrom 9 (some .int) 1 22 shX [zr 78, zr c1, zi a2, zi a3] M (zI Φ) := by
  refine zq_enter [some (zr 78), some (zr c1), some (zi a2), some (zi a3), none, none, none, none, none] (by decide) rfl (Nat.le_of_ble_eq_true rfl) rfl (fun X C => ?_)
  unfold jP_slipFrom at hJ
  have hl6 : ∀ (s : Int × Int × zM), zwh (fun K s => jP_slipFrom_L6 c1 a2 a3 K Φ (s.1) (s.2.1) (s.2.2)) s → zG X (s.2.2) 6 [some (zr 78), some (zr c1), some (zi a2), some (zi a3), some (zi (s.1)), some (zi (s.2.1)), none, none, none] [] := by
    refine zwh_sound ?_
    intro K6 s hK6 hJ
    obtain ⟨x4, x5, M⟩ := s
    have hJ : jP_slipFrom_L6 c1 a2 a3 K6 Φ x4 x5 M := hJ
    show zG X M 6 [some (zr 78), some (zr c1), some (zi a2), some (zi a3), some (zi x4), some (zi x5), none, none, none] []
    unfold jP_slipFrom_L6 at hJ
    have hl53 : ∀ (x4 x5 x6 : Int) (s : Int × zM), zwh (fun K s => jP_slipFrom_L53 c1 a2 a3 K6 K Φ x4 x5 x6 (s.1) (s.2)) s → zG X (s.2) 53 [some (zr 78), some (zr c1), some (zi a2), some (zi a3), some (zi x4), some (zi x5), some (zi x6), some (zi (s.1)), none] [] := by
      intro x4 x5 x6
      refine zwh_sound ?_
      intro K53 s hK53 hJ
      obtain ⟨x7, M⟩ := s
      have hJ : jP_slipFrom_L53 c1 a2 a3 K6 K53 Φ x4 x5 x6 x7 M := hJ
      show zG X M 53 [some (zr 78), some (zr c1), some (zi a2), some (zi a3), some (zi x4), some (zi x5), some (zi x6), some (zi x7), none] []
      unfold jP_slipFrom_L53 at hJ
      refine zq_iload C dX5_slipFrom_53 rfl ?_
      refine zq_iload C dX5_slipFrom_55 rfl ?_
      refine zq_icmp_ge (tgt := 118) C dX5_slipFrom_57 rfl (fun h27 => ?_) (fun h27 => ?_)
      · have hJ := hJ.1 h27
        refine zq_iload C dX5_slipFrom_118 rfl ?_
        refine zq_aload_n (i := 0) C dX5_slipFrom_120 rfl rfl ?_
        refine zq_getr C fk_X5_18 sx78 rfl dX5_slipFrom_121 ?_
        refine zq_iload C dX5_slipFrom_124 rfl ?_
        obtain ⟨h7, h7', hJ⟩ := hJ
        refine zq_iald C sx81 h7 h7' dX5_slipFrom_126 ?_
        refine zq_aload_n (i := 1) C dX5_slipFrom_127 rfl rfl ?_
        refine zq_getr C fk_X5_58 (zs0 hc1) rfl dX5_slipFrom_128 ?_
        refine zq_iload C dX5_slipFrom_131 rfl ?_
        obtain ⟨h8, h8', hJ⟩ := hJ
        refine zq_iald C (zs4 hc1) h8 h8' dX5_slipFrom_133 ?_
        obtain ⟨h9, hJ⟩ := hJ
        refine zq_iadd C dX5_slipFrom_134 h9 ?_
        refine zq_max C mk_X5_61 rfl ⟨Nat.le_of_ble_eq_true rfl, Nat.le_of_ble_eq_true rfl⟩ dX5_slipFrom_135 ?_
        refine zq_istoreN C (fun v => [some (zr 78), some (zr c1), some (zi a2), some (zi a3), some (zi v), some (zi x5), some (zi x6), some (zi x7), none]) dX5_slipFrom_138 (Nat.le_of_ble_eq_true rfl) (fun _ => rfl) (fun v4_11 hv4_11 => ?_)
        have hJ := hJ v4_11 hv4_11
        obtain ⟨hv5_12, hJ⟩ := hJ
        refine zq_iinc (y := x5 + 1) (lv' := [some (zr 78), some (zr c1), some (zi a2), some (zi a3), some (zi v4_11), some (zi (x5 + 1)), some (zi x6), some (zi x7), none]) C dX5_slipFrom_140 rfl rfl hv5_12 rfl ?_
        obtain ⟨v5_12, ev5_12⟩ : ∃ z, z = x5 + 1 := ⟨_, rfl⟩
        rw [← ev5_12]
        have hJ := hJ v5_12 ev5_12
        refine zq_goto (tgt := 6) C dX5_slipFrom_143 rfl ?_
        refine zq_weak [some (zr 78), some (zr c1), some (zi a2), some (zi a3), some (zi v4_11), some (zi v5_12), none, none, none] ⟨Or.inr rfl, Or.inr rfl, Or.inr rfl, Or.inr rfl, Or.inr rfl, Or.inr rfl, Or.inl rfl, Or.inl rfl, Or.inl rfl, trivial⟩ ?_
        exact hK6 _ hJ
      · have hJ := hJ.2 h27
        refine zq_aload_n (i := 0) C dX5_slipFrom_60 rfl rfl ?_
        refine zq_getr C fk_X5_9 sx78 rfl dX5_slipFrom_61 ?_
        refine zq_iload C dX5_slipFrom_64 rfl ?_
        obtain ⟨h13, h13', hJ⟩ := hJ
        refine zq_iald C sx79 h13 h13' dX5_slipFrom_66 ?_
        refine zq_istoreN C (fun v => [some (zr 78), some (zr c1), some (zi a2), some (zi a3), some (zi x4), some (zi x5), some (zi x6), some (zi x7), some (zi v)]) dX5_slipFrom_67 (Nat.le_of_ble_eq_true rfl) (fun _ => rfl) (fun v8_14 hv8_14 => ?_)
        have hJ := hJ v8_14 hv8_14
        refine zq_aload_n (i := 0) C dX5_slipFrom_69 rfl rfl ?_
        refine zq_iload C dX5_slipFrom_70 rfl ?_
        refine zq_iload C dX5_slipFrom_72 rfl ?_
        refine zq_callVi C [zi x6, zi v8_14] (wP_isPushed l _ _ _  hJ) ck_X5_54 iv_X5_isPushed rfl sx78 rfl rfl rfl rfl rfl rfl dX5_slipFrom_74 (fun r15 N16 hN16 => ?_)
        obtain ⟨rfl, hJ⟩ := hN16
        refine zq_if_eq (tgt := 112) C dX5_slipFrom_77 rfl (fun h26 => ?_) (fun h26 => ?_)
        · have hJ := hJ.1 h26
          obtain ⟨hv7_17, hJ⟩ := hJ
          refine zq_iinc (y := x7 + 1) (lv' := [some (zr 78), some (zr c1), some (zi a2), some (zi a3), some (zi x4), some (zi x5), some (zi x6), some (zi (x7 + 1)), some (zi v8_14)]) C dX5_slipFrom_112 rfl rfl hv7_17 rfl ?_
          obtain ⟨v7_17, ev7_17⟩ : ∃ z, z = x7 + 1 := ⟨_, rfl⟩
          rw [← ev7_17]
          have hJ := hJ v7_17 ev7_17
          refine zq_goto (tgt := 53) C dX5_slipFrom_115 rfl ?_
          refine zq_weak [some (zr 78), some (zr c1), some (zi a2), some (zi a3), some (zi x4), some (zi x5), some (zi x6), some (zi v7_17), none] ⟨Or.inr rfl, Or.inr rfl, Or.inr rfl, Or.inr rfl, Or.inr rfl, Or.inr rfl, Or.inr rfl, Or.inr rfl, Or.inl rfl, trivial⟩ ?_
          exact hK53 _ hJ
        · have hJ := hJ.2 h26
          refine zq_aload_n (i := 0) C dX5_slipFrom_80 rfl rfl ?_
          refine zq_getr C fk_X5_18 sx78 rfl dX5_slipFrom_81 ?_
          refine zq_iload C dX5_slipFrom_84 rfl ?_
          refine zq_aload_n (i := 0) C dX5_slipFrom_86 rfl rfl ?_
          refine zq_getr C fk_X5_18 sx78 rfl dX5_slipFrom_87 ?_
          refine zq_iload C dX5_slipFrom_90 rfl ?_
          obtain ⟨h18, h18', hJ⟩ := hJ
          refine zq_iald C sx81 h18 h18' dX5_slipFrom_92 ?_
          refine zq_aload_n (i := 0) C dX5_slipFrom_93 rfl rfl ?_
          refine zq_getr C fk_X5_18 sx78 rfl dX5_slipFrom_94 ?_
          refine zq_iload C dX5_slipFrom_97 rfl ?_
          obtain ⟨h19, h19', hJ⟩ := hJ
          refine zq_iald C sx81 h19 h19' dX5_slipFrom_99 ?_
          refine zq_aload_n (i := 1) C dX5_slipFrom_100 rfl rfl ?_
          refine zq_getr C fk_X5_58 (zs0 hc1) rfl dX5_slipFrom_101 ?_
          refine zq_iload C dX5_slipFrom_104 rfl ?_
          obtain ⟨h20, h20', hJ⟩ := hJ
          refine zq_iald C (zs4 hc1) h20 h20' dX5_slipFrom_106 ?_
          obtain ⟨h21, hJ⟩ := hJ
          refine zq_iadd C dX5_slipFrom_107 h21 ?_
          refine zq_max C mk_X5_61 rfl ⟨Nat.le_of_ble_eq_true rfl, Nat.le_of_ble_eq_true rfl⟩ dX5_slipFrom_108 ?_
          obtain ⟨h23, h23', hJ⟩ := hJ
          refine zq_iast C sx81 h23 h23' dX5_slipFrom_111 (fun M24 hM24 => ?_)
          have hJ := hJ M24 hM24
          obtain ⟨hv7_25, hJ⟩ := hJ
          refine zq_iinc (y := x7 + 1) (lv' := [some (zr 78), some (zr c1), some (zi a2), some (zi a3), some (zi x4), some (zi x5), some (zi x6), some (zi (x7 + 1)), some (zi v8_14)]) C dX5_slipFrom_112 rfl rfl hv7_25 rfl ?_
          obtain ⟨v7_25, ev7_25⟩ : ∃ z, z = x7 + 1 := ⟨_, rfl⟩
          rw [← ev7_25]
          have hJ := hJ v7_25 ev7_25
          refine zq_goto (tgt := 53) C dX5_slipFrom_115 rfl ?_
          refine zq_weak [some (zr 78), some (zr c1), some (zi a2), some (zi a3), some (zi x4), some (zi x5), some (zi x6), some (zi v7_25), none] ⟨Or.inr rfl, Or.inr rfl, Or.inr rfl, Or.inr rfl, Or.inr rfl, Or.inr rfl, Or.inr rfl, Or.inr rfl, Or.inl rfl, trivial⟩ ?_
          exact hK53 _ hJ
    have hj48 : ∀ (x4 x5 x6 s1 s2 s3 : Int) (M : zM), jP_slipFrom_J48 c1 a2 a3 K6 Φ x4 x5 x6 s1 s2 s3 M → zG X M 48 [some (zr 78), some (zr c1), some (zi a2), some (zi a3), some (zi x4), some (zi x5), some (zi x6), none, none] [zi s3, zi s2, zi s1, zr 81] := by
      intro x4 x5 x6 s1 s2 s3 M hJ
      unfold jP_slipFrom_J48 at hJ
      obtain ⟨h4, hJ⟩ := hJ
      refine zq_iadd C dX5_slipFrom_48 h4 ?_
      obtain ⟨h5, h5', hJ⟩ := hJ
      refine zq_iast C sx81 h5 h5' dX5_slipFrom_49 (fun M6 hM6 => ?_)
      have hJ := hJ M6 hM6
      refine zq_iconst (x := 0) C dX5_slipFrom_50 rfl ik_0 ?_
      refine zq_istore (lv' := [some (zr 78), some (zr c1), some (zi a2), some (zi a3), some (zi x4), some (zi x5), some (zi x6), some (zi 0), none]) C dX5_slipFrom_51 (Nat.le_of_ble_eq_true rfl) rfl ?_
      exact hl53 _ _ _ _ hJ
    refine zq_iload C dX5_slipFrom_6 rfl ?_
    refine zq_aload_n (i := 1) C dX5_slipFrom_8 rfl rfl ?_
    refine zq_get (kz := 0) C fk_X5_25 (zs0 hc1) rfl dX5_slipFrom_9 rfl ?_
    refine zq_icmp_ge (tgt := 146) C dX5_slipFrom_12 rfl (fun h29 => ?_) (fun h29 => ?_)
    · have hJ := hJ.1 h29
      refine zq_iload C dX5_slipFrom_146 rfl ?_
      exact zq_iret C rfl ⟨_, rfl, hJ⟩ dX5_slipFrom_148
    · have hJ := hJ.2 h29
      refine zq_aload_n (i := 0) C dX5_slipFrom_15 rfl rfl ?_
      refine zq_getr C fk_X5_9 sx78 rfl dX5_slipFrom_16 ?_
      refine zq_iload C dX5_slipFrom_19 rfl ?_
      obtain ⟨h1, h1', hJ⟩ := hJ
      refine zq_iald C sx79 h1 h1' dX5_slipFrom_21 ?_
      refine zq_istoreN C (fun v => [some (zr 78), some (zr c1), some (zi a2), some (zi a3), some (zi x4), some (zi x5), some (zi v), none, none]) dX5_slipFrom_22 (Nat.le_of_ble_eq_true rfl) (fun _ => rfl) (fun v6_2 hv6_2 => ?_)
      have hJ := hJ v6_2 hv6_2
      refine zq_aload_n (i := 0) C dX5_slipFrom_24 rfl rfl ?_
      refine zq_getr C fk_X5_18 sx78 rfl dX5_slipFrom_25 ?_
      refine zq_iload C dX5_slipFrom_28 rfl ?_
      refine zq_aload_n (i := 1) C dX5_slipFrom_30 rfl rfl ?_
      refine zq_getr C fk_X5_48 (zs0 hc1) rfl dX5_slipFrom_31 ?_
      refine zq_iload C dX5_slipFrom_34 rfl ?_
      obtain ⟨h3, h3', hJ⟩ := hJ
      refine zq_iald C (zs3 hc1) h3 h3' dX5_slipFrom_36 ?_
      refine zq_iload C dX5_slipFrom_37 rfl ?_
      refine zq_iload_n (i := 2) C dX5_slipFrom_39 rfl rfl ?_
      refine zq_icmp_ne (tgt := 47) C dX5_slipFrom_40 rfl (fun h28 => ?_) (fun h28 => ?_)
      · have hJ := hJ.1 h28
        refine zq_iconst (x := 0) C dX5_slipFrom_47 rfl ik_0 ?_
        exact hj48 _ _ _ _ _ _ _ hJ
      · have hJ := hJ.2 h28
        refine zq_iload_n (i := 3) C dX5_slipFrom_43 rfl rfl ?_
        refine zq_goto (tgt := 48) C dX5_slipFrom_44 rfl ?_
        exact hj48 _ _ _ _ _ _ _ hJ
  refine zq_iconst (x := 0) C dX5_slipFrom_0 rfl ik_0 ?_
  refine zq_istore (lv' := [some (zr 78), some (zr c1), some (zi a2), some (zi a3), some (zi 0), none, none, none, none]) C dX5_slipFrom_1 (Nat.le_of_ble_eq_true rfl) rfl ?_
  refine zq_iconst (x := 0) C dX5_slipFrom_3 rfl ik_0 ?_
  refine zq_istore (lv' := [some (zr 78), some (zr c1), some (zi a2), some (zi a3), some (zi 0), some (zi 0), none, none, none]) C dX5_slipFrom_4 (Nat.le_of_ble_eq_true rfl) rfl ?_
  exact hl6 _ hJ
set_option maxRecDepth 100000 in
set_option maxHeartbeats 4000000 in
theorem wC_slipTo (l : Launch) {b : Nat} (hb : zCh b)  (M : zM) {Φ : Int → zM → Prop} (hJ : jC_slipTo b M Φ) : zMet l yX0_slipTo cX0_slipTo 4 (some .int) 0 0 shX [zr b, zr 81] M (zI Φ) := by
  refine zq_enter [some (zr b), some (zr 81), none, none] (by decide) rfl (Nat.le_of_ble_eq_true rfl) rfl (fun X C => ?_)
  unfold jC_slipTo at hJ
  have hl4 : ∀ (s : Int × Int × zM), zwh (fun K s => jC_slipTo_L4 b K Φ (s.1) (s.2.1) (s.2.2)) s → zG X (s.2.2) 4 [some (zr b), some (zr 81), some (zi (s.1)), some (zi (s.2.1))] [] := by
    refine zwh_sound ?_
    intro K4 s hK4 hJ
    obtain ⟨x2, x3, M⟩ := s
    have hJ : jC_slipTo_L4 b K4 Φ x2 x3 M := hJ
    show zG X M 4 [some (zr b), some (zr 81), some (zi x2), some (zi x3)] []
    unfold jC_slipTo_L4 at hJ
    refine zq_iload_n (i := 3) C dX0_slipTo_4 rfl rfl ?_
    refine zq_aload_n (i := 0) C dX0_slipTo_5 rfl rfl ?_
    refine zq_get (kz := 0) C fk_X0_45 (zs0 hb) rfl dX0_slipTo_6 rfl ?_
    refine zq_icmp_ge (tgt := 61) C dX0_slipTo_9 rfl (fun h15 => ?_) (fun h15 => ?_)
    · have hJ := hJ.1 h15
      refine zq_iload_n (i := 2) C dX0_slipTo_61 rfl rfl ?_
      exact zq_iret C rfl ⟨_, rfl, hJ⟩ dX0_slipTo_62
    · have hJ := hJ.2 h15
      refine zq_aload_n (i := 1) C dX0_slipTo_12 rfl rfl ?_
      refine zq_iload_n (i := 3) C dX0_slipTo_13 rfl rfl ?_
      obtain ⟨h1, h1', hJ⟩ := hJ
      refine zq_iald C sx81 h1 h1' dX0_slipTo_14 ?_
      refine zq_aload_n (i := 0) C dX0_slipTo_15 rfl rfl ?_
      refine zq_getr C fk_X0_18 (zs0 hb) rfl dX0_slipTo_16 ?_
      refine zq_iload_n (i := 3) C dX0_slipTo_19 rfl rfl ?_
      obtain ⟨h2, h2', hJ⟩ := hJ
      refine zq_iald C (zs3 hb) h2 h2' dX0_slipTo_20 ?_
      refine zq_icmp_eq (tgt := 55) C dX0_slipTo_21 rfl (fun h14 => ?_) (fun h14 => ?_)
      · have hJ := hJ.1 h14
        obtain ⟨hv3_3, hJ⟩ := hJ
        refine zq_iinc (y := x3 + 1) (lv' := [some (zr b), some (zr 81), some (zi x2), some (zi (x3 + 1))]) C dX0_slipTo_55 rfl rfl hv3_3 rfl ?_
        obtain ⟨v3_3, ev3_3⟩ : ∃ z, z = x3 + 1 := ⟨_, rfl⟩
        rw [← ev3_3]
        have hJ := hJ v3_3 ev3_3
        refine zq_goto (tgt := 4) C dX0_slipTo_58 rfl ?_
        exact hK4 _ hJ
      · have hJ := hJ.2 h14
        refine zq_aload_n (i := 0) C dX0_slipTo_24 rfl rfl ?_
        refine zq_dup C dX0_slipTo_25 rfl ?_
        refine zq_get (kz := 13) C fk_X0_64 (zs0 hb) rfl dX0_slipTo_26 rfl ?_
        refine zq_aload_n (i := 1) C dX0_slipTo_29 rfl rfl ?_
        refine zq_iload_n (i := 3) C dX0_slipTo_30 rfl rfl ?_
        obtain ⟨h4, h4', hJ⟩ := hJ
        refine zq_iald C sx81 h4 h4' dX0_slipTo_31 ?_
        refine zq_aload_n (i := 0) C dX0_slipTo_32 rfl rfl ?_
        refine zq_getr C fk_X0_18 (zs0 hb) rfl dX0_slipTo_33 ?_
        refine zq_iload_n (i := 3) C dX0_slipTo_36 rfl rfl ?_
        obtain ⟨h5, h5', hJ⟩ := hJ
        refine zq_iald C (zs3 hb) h5 h5' dX0_slipTo_37 ?_
        obtain ⟨h6, hJ⟩ := hJ
        refine zq_isub C dX0_slipTo_38 h6 ?_
        obtain ⟨h7, hJ⟩ := hJ
        refine zq_iadd C dX0_slipTo_39 h7 ?_
        refine zq_put (kz := 13) C fk_X0_64 (zs0 hb) rfl dX0_slipTo_40 rfl (fun M8 hM8 => ?_)
        have hJ := hJ M8 hM8
        refine zq_aload_n (i := 0) C dX0_slipTo_43 rfl rfl ?_
        refine zq_getr C fk_X0_18 (zs0 hb) rfl dX0_slipTo_44 ?_
        refine zq_iload_n (i := 3) C dX0_slipTo_47 rfl rfl ?_
        refine zq_aload_n (i := 1) C dX0_slipTo_48 rfl rfl ?_
        refine zq_iload_n (i := 3) C dX0_slipTo_49 rfl rfl ?_
        obtain ⟨h9, h9', hJ⟩ := hJ
        refine zq_iald C sx81 h9 h9' dX0_slipTo_50 ?_
        obtain ⟨h10, h10', hJ⟩ := hJ
        refine zq_iast C (zs3 hb) h10 h10' dX0_slipTo_51 (fun M11 hM11 => ?_)
        have hJ := hJ M11 hM11
        obtain ⟨hv2_12, hJ⟩ := hJ
        refine zq_iinc (y := x2 + 1) (lv' := [some (zr b), some (zr 81), some (zi (x2 + 1)), some (zi x3)]) C dX0_slipTo_52 rfl rfl hv2_12 rfl ?_
        obtain ⟨v2_12, ev2_12⟩ : ∃ z, z = x2 + 1 := ⟨_, rfl⟩
        rw [← ev2_12]
        have hJ := hJ v2_12 ev2_12
        obtain ⟨hv3_13, hJ⟩ := hJ
        refine zq_iinc (y := x3 + 1) (lv' := [some (zr b), some (zr 81), some (zi v2_12), some (zi (x3 + 1))]) C dX0_slipTo_55 rfl rfl hv3_13 rfl ?_
        obtain ⟨v3_13, ev3_13⟩ : ∃ z, z = x3 + 1 := ⟨_, rfl⟩
        rw [← ev3_13]
        have hJ := hJ v3_13 ev3_13
        refine zq_goto (tgt := 4) C dX0_slipTo_58 rfl ?_
        exact hK4 _ hJ
  refine zq_iconst (x := 0) C dX0_slipTo_0 rfl ik_0 ?_
  refine zq_istore_n (i := 2) (lv' := [some (zr b), some (zr 81), some (zi 0), none]) C dX0_slipTo_1 rfl (Nat.le_of_ble_eq_true rfl) rfl ?_
  refine zq_iconst (x := 0) C dX0_slipTo_2 rfl ik_0 ?_
  refine zq_istore_n (i := 3) (lv' := [some (zr b), some (zr 81), some (zi 0), some (zi 0)]) C dX0_slipTo_3 rfl (Nat.le_of_ble_eq_true rfl) rfl ?_
  exact hl4 _ hJ
set_option maxRecDepth 100000 in
set_option maxHeartbeats 4000000 in
theorem wB_slip (l : Launch) (a1 a2 : Int) (M : zM) {Φ : Int → zM → Prop} (hJ : jB_slip a1 a2 M Φ) : zMet l yX7_slip cX7_slip 4 (some .int) 4 81 shX [zr 70, zi a1, zi a2] M (zI Φ) := by
  refine zq_enter [some (zr 70), some (zi a1), some (zi a2), none] (by decide) rfl (Nat.le_of_ble_eq_true rfl) rfl (fun X C => ?_)
  unfold jB_slip at hJ
  refine zq_aload_n (i := 0) C dX7_slip_0 rfl rfl ?_
  refine zq_getr C fk_X7_10 sx70 rfl dX7_slip_1 ?_
  refine zq_iload_n (i := 1) C dX7_slip_4 rfl rfl ?_
  refine zq_callVi C [zi a1] (wC_slotOf l zch0 _ _  hJ) ck_X7_91 iv_X0_slotOf rfl sx0 rfl rfl rfl rfl rfl rfl dX7_slip_5 (fun r1 N2 hN2 => ?_)
  obtain ⟨rfl, hJ⟩ := hN2
  refine zq_istore_n (i := 3) (lv' := [some (zr 70), some (zi a1), some (zi a2), some (zi r1)]) C dX7_slip_8 rfl (Nat.le_of_ble_eq_true rfl) rfl ?_
  refine zq_iload_n (i := 3) C dX7_slip_9 rfl rfl ?_
  refine zq_if_ge (tgt := 15) C dX7_slip_10 rfl (fun h14 => ?_) (fun h14 => ?_)
  · have hJ := hJ.1 h14
    refine zq_iload_n (i := 2) C dX7_slip_15 rfl rfl ?_
    refine zq_iconst (x := 1) C dX7_slip_16 rfl ik_1 ?_
    refine zq_icmp_lt (tgt := 26) C dX7_slip_17 rfl (fun h13 => ?_) (fun h13 => ?_)
    · have hJ := hJ.1 h13
      refine zq_bipush (x := (-2)) C dX7_slip_26 bi_m2 ik_m2 ?_
      exact zq_iret C rfl ⟨_, rfl, hJ⟩ dX7_slip_28
    · have hJ := hJ.2 h13
      refine zq_iload_n (i := 2) C dX7_slip_20 rfl rfl ?_
      refine zq_bipush (x := 30) C dX7_slip_21 bi_30 ik_30 ?_
      refine zq_icmp_le (tgt := 29) C dX7_slip_23 rfl (fun h12 => ?_) (fun h12 => ?_)
      · have hJ := hJ.1 h12
        refine zq_aload_n (i := 0) C dX7_slip_29 rfl rfl ?_
        refine zq_getr C fk_X7_39 sx70 rfl dX7_slip_30 ?_
        refine zq_aload_n (i := 0) C dX7_slip_33 rfl rfl ?_
        refine zq_getr C fk_X7_10 sx70 rfl dX7_slip_34 ?_
        refine zq_callVv C [zr 0] (wP_read l zch0 _  hJ) ck_X7_154 iv_X5_read rfl sx78 rfl rfl rfl rfl rfl rfl dX7_slip_37 (fun M3 hJ => ?_)
        refine zq_aload_n (i := 0) C dX7_slip_40 rfl rfl ?_
        refine zq_getr C fk_X7_39 sx70 rfl dX7_slip_41 ?_
        refine zq_aload_n (i := 0) C dX7_slip_44 rfl rfl ?_
        refine zq_getr C fk_X7_10 sx70 rfl dX7_slip_45 ?_
        refine zq_iload_n (i := 3) C dX7_slip_48 rfl rfl ?_
        refine zq_iload_n (i := 2) C dX7_slip_49 rfl rfl ?_
        refine zq_callVi C [zr 0, zi r1, zi a2] (wP_slipFrom l zch0 _ _ _  hJ) ck_X7_157 iv_X5_slipFrom rfl sx78 rfl rfl rfl rfl rfl rfl dX7_slip_50 (fun r4 M5 hJ => ?_)
        refine zq_sipush (x := 200) C dX7_slip_53 si_200 ik_200 ?_
        refine zq_icmp_le (tgt := 62) C dX7_slip_56 rfl (fun h11 => ?_) (fun h11 => ?_)
        · have hJ := hJ.1 h11
          refine zq_aload_n (i := 0) C dX7_slip_62 rfl rfl ?_
          refine zq_getr C fk_X7_16 sx70 rfl dX7_slip_63 ?_
          refine zq_aload_n (i := 0) C dX7_slip_66 rfl rfl ?_
          refine zq_getr C fk_X7_10 sx70 rfl dX7_slip_67 ?_
          refine zq_callVv C [zr 0] (wC_copyFrom l zch10 zch0 _  hJ) ck_X7_64 iv_X0_copyFrom rfl sx10 rfl rfl rfl rfl rfl rfl dX7_slip_70 (fun M6 hJ => ?_)
          refine zq_aload_n (i := 0) C dX7_slip_73 rfl rfl ?_
          refine zq_aload_n (i := 0) C dX7_slip_74 rfl rfl ?_
          refine zq_getr C fk_X7_16 sx70 rfl dX7_slip_75 ?_
          refine zq_aload_n (i := 0) C dX7_slip_78 rfl rfl ?_
          refine zq_getr C fk_X7_39 sx70 rfl dX7_slip_79 ?_
          refine zq_getr C fk_X7_161 sx78 rfl dX7_slip_82 ?_
          refine zq_callVi C [zr 81] (wC_slipTo l zch10 _  hJ) ck_X7_164 iv_X0_slipTo rfl sx10 rfl rfl rfl rfl rfl rfl dX7_slip_85 (fun r7 M8 hJ => ?_)
          refine zq_callVi C [zi r7] (wB_settle l _ _  hJ) ck_X7_72 iv_X7_settle rfl sx70 rfl rfl rfl rfl rfl rfl dX7_slip_88 (fun r9 M10 hJ => ?_)
          exact zq_iret C rfl ⟨_, rfl, hJ⟩ dX7_slip_91
        · have hJ := hJ.2 h11
          refine zq_bipush (x := (-4)) C dX7_slip_59 bi_m4 ik_m4 ?_
          exact zq_iret C rfl ⟨_, rfl, hJ⟩ dX7_slip_61
      · have hJ := hJ.2 h12
        refine zq_bipush (x := (-2)) C dX7_slip_26 bi_m2 ik_m2 ?_
        exact zq_iret C rfl ⟨_, rfl, hJ⟩ dX7_slip_28
  · have hJ := hJ.2 h14
    refine zq_iconst (x := (-1)) C dX7_slip_13 rfl ik_m1 ?_
    exact zq_iret C rfl ⟨_, rfl, hJ⟩ dX7_slip_14
set_option maxRecDepth 100000 in
set_option maxHeartbeats 4000000 in
theorem wP_earliest (l : Launch) {c1 : Nat} (hc1 : zCh c1) (a2 : Int) (M : zM) {Φ : Int → Prop} (hJ : jP_earliest c1 a2 M Φ) : zMet l yX5_earliest cX5_earliest 5 (some .int) 1 22 shX [zr 78, zr c1, zi a2] M (zI (fun z M' => M = M' ∧ Φ z)) := by
  refine zq_enter [some (zr 78), some (zr c1), some (zi a2), none, none] (by decide) rfl (Nat.le_of_ble_eq_true rfl) rfl (fun X C => ?_)
  unfold jP_earliest at hJ
  have hl5 : ∀ (s : Int × Int), zwh (fun K s => jP_earliest_L5 c1 a2 K Φ M (s.1) (s.2)) s → zG X M 5 [some (zr 78), some (zr c1), some (zi a2), some (zi (s.1)), some (zi (s.2))] [] := by
    refine zwh_sound ?_
    intro K5 s hK5 hJ
    obtain ⟨x3, x4⟩ := s
    have hJ : jP_earliest_L5 c1 a2 K5 Φ M x3 x4 := hJ
    show zG X M 5 [some (zr 78), some (zr c1), some (zi a2), some (zi x3), some (zi x4)] []
    unfold jP_earliest_L5 at hJ
    refine zq_iload C dX5_earliest_5 rfl ?_
    refine zq_aload_n (i := 1) C dX5_earliest_7 rfl rfl ?_
    refine zq_get (kz := 0) C fk_X5_25 (zs0 hc1) rfl dX5_earliest_8 rfl ?_
    refine zq_icmp_ge (tgt := 41) C dX5_earliest_11 rfl (fun h10 => ?_) (fun h10 => ?_)
    · have hJ := hJ.1 h10
      refine zq_iload_n (i := 3) C dX5_earliest_41 rfl rfl ?_
      exact zq_iret C rfl ⟨_, rfl, rfl, hJ⟩ dX5_earliest_42
    · have hJ := hJ.2 h10
      refine zq_aload_n (i := 0) C dX5_earliest_14 rfl rfl ?_
      refine zq_iload_n (i := 2) C dX5_earliest_15 rfl rfl ?_
      refine zq_iload C dX5_earliest_16 rfl ?_
      refine zq_callVi C [zi a2, zi x4] (wP_isPushed l _ _ _  hJ) ck_X5_54 iv_X5_isPushed rfl sx78 rfl rfl rfl rfl rfl rfl dX5_earliest_18 (fun r1 N2 hN2 => ?_)
      obtain ⟨rfl, hJ⟩ := hN2
      refine zq_if_eq (tgt := 35) C dX5_earliest_21 rfl (fun h9 => ?_) (fun h9 => ?_)
      · have hJ := hJ.1 h9
        obtain ⟨hv4_3, hJ⟩ := hJ
        refine zq_iinc (y := x4 + 1) (lv' := [some (zr 78), some (zr c1), some (zi a2), some (zi x3), some (zi (x4 + 1))]) C dX5_earliest_35 rfl rfl hv4_3 rfl ?_
        obtain ⟨v4_3, ev4_3⟩ : ∃ z, z = x4 + 1 := ⟨_, rfl⟩
        rw [← ev4_3]
        have hJ := hJ v4_3 ev4_3
        refine zq_goto (tgt := 5) C dX5_earliest_38 rfl ?_
        exact hK5 _ hJ
      · have hJ := hJ.2 h9
        refine zq_iload_n (i := 3) C dX5_earliest_24 rfl rfl ?_
        refine zq_aload_n (i := 1) C dX5_earliest_25 rfl rfl ?_
        refine zq_iload C dX5_earliest_26 rfl ?_
        refine zq_callVi C [zi x4] (wC_endOf l hc1 _ _  hJ) ck_X5_74 iv_X0_endOf rfl (zs0 hc1) rfl rfl rfl rfl rfl rfl dX5_earliest_28 (fun r4 N5 hN5 => ?_)
        obtain ⟨rfl, hJ⟩ := hN5
        refine zq_max C mk_X5_61 rfl ⟨Nat.le_of_ble_eq_true rfl, Nat.le_of_ble_eq_true rfl⟩ dX5_earliest_31 ?_
        refine zq_istoreN_n (i := 3) C (fun v => [some (zr 78), some (zr c1), some (zi a2), some (zi v), some (zi x4)]) dX5_earliest_34 rfl (Nat.le_of_ble_eq_true rfl) (fun _ => rfl) (fun v3_7 hv3_7 => ?_)
        have hJ := hJ v3_7 hv3_7
        obtain ⟨hv4_8, hJ⟩ := hJ
        refine zq_iinc (y := x4 + 1) (lv' := [some (zr 78), some (zr c1), some (zi a2), some (zi v3_7), some (zi (x4 + 1))]) C dX5_earliest_35 rfl rfl hv4_8 rfl ?_
        obtain ⟨v4_8, ev4_8⟩ : ∃ z, z = x4 + 1 := ⟨_, rfl⟩
        rw [← ev4_8]
        have hJ := hJ v4_8 ev4_8
        refine zq_goto (tgt := 5) C dX5_earliest_38 rfl ?_
        exact hK5 _ hJ
  refine zq_iconst (x := 0) C dX5_earliest_0 rfl ik_0 ?_
  refine zq_istore_n (i := 3) (lv' := [some (zr 78), some (zr c1), some (zi a2), some (zi 0), none]) C dX5_earliest_1 rfl (Nat.le_of_ble_eq_true rfl) rfl ?_
  refine zq_iconst (x := 0) C dX5_earliest_2 rfl ik_0 ?_
  refine zq_istore (lv' := [some (zr 78), some (zr c1), some (zi a2), some (zi 0), some (zi 0)]) C dX5_earliest_3 (Nat.le_of_ble_eq_true rfl) rfl ?_
  exact hl5 _ hJ
set_option maxRecDepth 100000 in
set_option maxHeartbeats 4000000 in
theorem wB_pull (l : Launch) (a1 : Int) (M : zM) {Φ : Int → zM → Prop} (hJ : jB_pull a1 M Φ) : zMet l yX7_pull cX7_pull 5 (some .int) 4 81 shX [zr 70, zi a1] M (zI Φ) := by
  refine zq_enter [some (zr 70), some (zi a1), none, none, none] (by decide) rfl (Nat.le_of_ble_eq_true rfl) rfl (fun X C => ?_)
  unfold jB_pull at hJ
  refine zq_aload_n (i := 0) C dX7_pull_0 rfl rfl ?_
  refine zq_getr C fk_X7_10 sx70 rfl dX7_pull_1 ?_
  refine zq_iload_n (i := 1) C dX7_pull_4 rfl rfl ?_
  refine zq_callVi C [zi a1] (wC_slotOf l zch0 _ _  hJ) ck_X7_91 iv_X0_slotOf rfl sx0 rfl rfl rfl rfl rfl rfl dX7_pull_5 (fun r1 N2 hN2 => ?_)
  obtain ⟨rfl, hJ⟩ := hN2
  refine zq_istore_n (i := 2) (lv' := [some (zr 70), some (zi a1), some (zi r1), none, none]) C dX7_pull_8 rfl (Nat.le_of_ble_eq_true rfl) rfl ?_
  refine zq_iload_n (i := 2) C dX7_pull_9 rfl rfl ?_
  refine zq_if_ge (tgt := 15) C dX7_pull_10 rfl (fun h15 => ?_) (fun h15 => ?_)
  · have hJ := hJ.1 h15
    refine zq_aload_n (i := 0) C dX7_pull_15 rfl rfl ?_
    refine zq_getr C fk_X7_39 sx70 rfl dX7_pull_16 ?_
    refine zq_aload_n (i := 0) C dX7_pull_19 rfl rfl ?_
    refine zq_getr C fk_X7_10 sx70 rfl dX7_pull_20 ?_
    refine zq_callVv C [zr 0] (wP_read l zch0 _  hJ) ck_X7_154 iv_X5_read rfl sx78 rfl rfl rfl rfl rfl rfl dX7_pull_23 (fun M3 hJ => ?_)
    refine zq_aload_n (i := 0) C dX7_pull_26 rfl rfl ?_
    refine zq_getr C fk_X7_39 sx70 rfl dX7_pull_27 ?_
    refine zq_aload_n (i := 0) C dX7_pull_30 rfl rfl ?_
    refine zq_getr C fk_X7_10 sx70 rfl dX7_pull_31 ?_
    refine zq_iload_n (i := 2) C dX7_pull_34 rfl rfl ?_
    refine zq_callVi C [zr 0, zi r1] (wP_earliest l zch0 _ _  hJ) ck_X7_167 iv_X5_earliest rfl sx78 rfl rfl rfl rfl rfl rfl dX7_pull_35 (fun r4 N5 hN5 => ?_)
    obtain ⟨rfl, hJ⟩ := hN5
    refine zq_istore_n (i := 3) (lv' := [some (zr 70), some (zi a1), some (zi r1), some (zi r4), none]) C dX7_pull_38 rfl (Nat.le_of_ble_eq_true rfl) rfl ?_
    refine zq_aload_n (i := 0) C dX7_pull_39 rfl rfl ?_
    refine zq_getr C fk_X7_10 sx70 rfl dX7_pull_40 ?_
    refine zq_getr C fk_X7_124 sx0 rfl dX7_pull_43 ?_
    refine zq_iload_n (i := 2) C dX7_pull_46 rfl rfl ?_
    obtain ⟨h6, h6', hJ⟩ := hJ
    refine zq_iald C sx3 h6 h6' dX7_pull_47 ?_
    refine zq_iload_n (i := 3) C dX7_pull_48 rfl rfl ?_
    obtain ⟨h7, hJ⟩ := hJ
    refine zq_isub C dX7_pull_49 h7 ?_
    refine zq_istoreN C (fun v => [some (zr 70), some (zi a1), some (zi r1), some (zi r4), some (zi v)]) dX7_pull_50 (Nat.le_of_ble_eq_true rfl) (fun _ => rfl) (fun v4_8 hv4_8 => ?_)
    have hJ := hJ v4_8 hv4_8
    refine zq_iload C dX7_pull_52 rfl ?_
    refine zq_if_ne (tgt := 60) C dX7_pull_54 rfl (fun h14 => ?_) (fun h14 => ?_)
    · have hJ := hJ.1 h14
      refine zq_aload_n (i := 0) C dX7_pull_60 rfl rfl ?_
      refine zq_getr C fk_X7_16 sx70 rfl dX7_pull_61 ?_
      refine zq_aload_n (i := 0) C dX7_pull_64 rfl rfl ?_
      refine zq_getr C fk_X7_10 sx70 rfl dX7_pull_65 ?_
      refine zq_callVv C [zr 0] (wC_copyFrom l zch10 zch0 _  hJ) ck_X7_64 iv_X0_copyFrom rfl sx10 rfl rfl rfl rfl rfl rfl dX7_pull_68 (fun M9 hJ => ?_)
      refine zq_aload_n (i := 0) C dX7_pull_71 rfl rfl ?_
      refine zq_getr C fk_X7_16 sx70 rfl dX7_pull_72 ?_
      refine zq_getr C fk_X7_124 sx10 rfl dX7_pull_75 ?_
      refine zq_iload_n (i := 2) C dX7_pull_78 rfl rfl ?_
      refine zq_iload_n (i := 3) C dX7_pull_79 rfl rfl ?_
      obtain ⟨h10, h10', hJ⟩ := hJ
      refine zq_iast C sx13 h10 h10' dX7_pull_80 (fun M11 hM11 => ?_)
      have hJ := hJ M11 hM11
      refine zq_aload_n (i := 0) C dX7_pull_81 rfl rfl ?_
      refine zq_iload C dX7_pull_82 rfl ?_
      refine zq_callVi C [zi v4_8] (wB_settle l _ _  hJ) ck_X7_72 iv_X7_settle rfl sx70 rfl rfl rfl rfl rfl rfl dX7_pull_84 (fun r12 M13 hJ => ?_)
      exact zq_iret C rfl ⟨_, rfl, hJ⟩ dX7_pull_87
    · have hJ := hJ.2 h14
      refine zq_bipush (x := (-5)) C dX7_pull_57 bi_m5 ik_m5 ?_
      exact zq_iret C rfl ⟨_, rfl, hJ⟩ dX7_pull_59
  · have hJ := hJ.2 h15
    refine zq_iconst (x := (-1)) C dX7_pull_13 rfl ik_m1 ?_
    exact zq_iret C rfl ⟨_, rfl, hJ⟩ dX7_pull_14
set_option maxRecDepth 100000 in
set_option maxHeartbeats 4000000 in
theorem wC_setWidths (l : Launch) {b : Nat} (hb : zCh b) (a1 a2 a3 : Int) (M : zM) {Φ : Int → zM → Prop} (hJ : jC_setWidths b a1 a2 a3 M Φ) : zMet l yX0_setWidths cX0_setWidths 6 (some .int) 0 0 shX [zr b, zi a1, zi a2, zi a3] M (zI Φ) := by
  refine zq_enter [some (zr b), some (zi a1), some (zi a2), some (zi a3), none, none] (by decide) rfl (Nat.le_of_ble_eq_true rfl) rfl (fun X C => ?_)
  unfold jC_setWidths at hJ
  have hl6 : ∀ (s : Int × Int × zM), zwh (fun K s => jC_setWidths_L6 b a1 a2 a3 K Φ (s.1) (s.2.1) (s.2.2)) s → zG X (s.2.2) 6 [some (zr b), some (zi a1), some (zi a2), some (zi a3), some (zi (s.1)), some (zi (s.2.1))] [] := by
    refine zwh_sound ?_
    intro K6 s hK6 hJ
    obtain ⟨x4, x5, M⟩ := s
    have hJ : jC_setWidths_L6 b a1 a2 a3 K6 Φ x4 x5 M := hJ
    show zG X M 6 [some (zr b), some (zi a1), some (zi a2), some (zi a3), some (zi x4), some (zi x5)] []
    unfold jC_setWidths_L6 at hJ
    refine zq_iload C dX0_setWidths_6 rfl ?_
    refine zq_iload_n (i := 2) C dX0_setWidths_8 rfl rfl ?_
    refine zq_icmp_gt (tgt := 40) C dX0_setWidths_9 rfl (fun h8 => ?_) (fun h8 => ?_)
    · have hJ := hJ.1 h8
      refine zq_iload C dX0_setWidths_40 rfl ?_
      exact zq_iret C rfl ⟨_, rfl, hJ⟩ dX0_setWidths_42
    · have hJ := hJ.2 h8
      refine zq_aload_n (i := 0) C dX0_setWidths_12 rfl rfl ?_
      refine zq_getr C fk_X0_33 (zs0 hb) rfl dX0_setWidths_13 ?_
      refine zq_iload C dX0_setWidths_16 rfl ?_
      obtain ⟨h1, h1', hJ⟩ := hJ
      refine zq_iald C (zs8 hb) h1 h1' dX0_setWidths_18 ?_
      refine zq_iload_n (i := 3) C dX0_setWidths_19 rfl rfl ?_
      refine zq_icmp_eq (tgt := 34) C dX0_setWidths_20 rfl (fun h7 => ?_) (fun h7 => ?_)
      · have hJ := hJ.1 h7
        obtain ⟨hv5_2, hJ⟩ := hJ
        refine zq_iinc (y := x5 + 1) (lv' := [some (zr b), some (zi a1), some (zi a2), some (zi a3), some (zi x4), some (zi (x5 + 1))]) C dX0_setWidths_34 rfl rfl hv5_2 rfl ?_
        obtain ⟨v5_2, ev5_2⟩ : ∃ z, z = x5 + 1 := ⟨_, rfl⟩
        rw [← ev5_2]
        have hJ := hJ v5_2 ev5_2
        refine zq_goto (tgt := 6) C dX0_setWidths_37 rfl ?_
        exact hK6 _ hJ
      · have hJ := hJ.2 h7
        refine zq_aload_n (i := 0) C dX0_setWidths_23 rfl rfl ?_
        refine zq_getr C fk_X0_33 (zs0 hb) rfl dX0_setWidths_24 ?_
        refine zq_iload C dX0_setWidths_27 rfl ?_
        refine zq_iload_n (i := 3) C dX0_setWidths_29 rfl rfl ?_
        obtain ⟨h3, h3', hJ⟩ := hJ
        refine zq_iast C (zs8 hb) h3 h3' dX0_setWidths_30 (fun M4 hM4 => ?_)
        have hJ := hJ M4 hM4
        obtain ⟨hv4_5, hJ⟩ := hJ
        refine zq_iinc (y := x4 + 1) (lv' := [some (zr b), some (zi a1), some (zi a2), some (zi a3), some (zi (x4 + 1)), some (zi x5)]) C dX0_setWidths_31 rfl rfl hv4_5 rfl ?_
        obtain ⟨v4_5, ev4_5⟩ : ∃ z, z = x4 + 1 := ⟨_, rfl⟩
        rw [← ev4_5]
        have hJ := hJ v4_5 ev4_5
        obtain ⟨hv5_6, hJ⟩ := hJ
        refine zq_iinc (y := x5 + 1) (lv' := [some (zr b), some (zi a1), some (zi a2), some (zi a3), some (zi v4_5), some (zi (x5 + 1))]) C dX0_setWidths_34 rfl rfl hv5_6 rfl ?_
        obtain ⟨v5_6, ev5_6⟩ : ∃ z, z = x5 + 1 := ⟨_, rfl⟩
        rw [← ev5_6]
        have hJ := hJ v5_6 ev5_6
        refine zq_goto (tgt := 6) C dX0_setWidths_37 rfl ?_
        exact hK6 _ hJ
  refine zq_iconst (x := 0) C dX0_setWidths_0 rfl ik_0 ?_
  refine zq_istore (lv' := [some (zr b), some (zi a1), some (zi a2), some (zi a3), some (zi 0), none]) C dX0_setWidths_1 (Nat.le_of_ble_eq_true rfl) rfl ?_
  refine zq_iload_n (i := 1) C dX0_setWidths_3 rfl rfl ?_
  refine zq_istore (lv' := [some (zr b), some (zi a1), some (zi a2), some (zi a3), some (zi 0), some (zi a1)]) C dX0_setWidths_4 (Nat.le_of_ble_eq_true rfl) rfl ?_
  exact hl6 _ hJ
set_option maxRecDepth 100000 in
set_option maxHeartbeats 4000000 in
theorem wB_width (l : Launch) (a1 a2 a3 : Int) (M : zM) {Φ : Int → zM → Prop} (hJ : jB_width a1 a2 a3 M Φ) : zMet l yX7_width cX7_width 5 (some .int) 4 81 shX [zr 70, zi a1, zi a2, zi a3] M (zI Φ) := by
  refine zq_enter [some (zr 70), some (zi a1), some (zi a2), some (zi a3), none] (by decide) rfl (Nat.le_of_ble_eq_true rfl) rfl (fun X C => ?_)
  unfold jB_width at hJ
  have hj69 : ∀ (s1 : Int) (M : zM), jB_width_J69 a1 a2 a3 Φ s1 M → zG X M 69 [some (zr 70), some (zi a1), some (zi a2), some (zi a3), none] [zi s1, zr 70] := by
    intro s1 M hJ
    unfold jB_width_J69 at hJ
    refine zq_callVi C [zi s1] (wB_settle l _ _  hJ) ck_X7_72 iv_X7_settle rfl sx70 rfl rfl rfl rfl rfl rfl dX7_width_69 (fun r8 M9 hJ => ?_)
    exact zq_iret C rfl ⟨_, rfl, hJ⟩ dX7_width_72
  refine zq_iload_n (i := 1) C dX7_width_0 rfl rfl ?_
  refine zq_callSi C [zi a1] (wB_isDay l _ _  hJ) ck_X7_115 st_X7_isDay rfl rfl rfl rfl rfl rfl dX7_width_1 (fun r1 N2 hN2 => ?_)
  obtain ⟨rfl, hJ⟩ := hN2
  refine zq_if_eq (tgt := 30) C dX7_width_4 rfl (fun h15 => ?_) (fun h15 => ?_)
  · have hJ := hJ.1 h15
    refine zq_bipush (x := (-2)) C dX7_width_30 bi_m2 ik_m2 ?_
    exact zq_iret C rfl ⟨_, rfl, hJ⟩ dX7_width_32
  · have hJ := hJ.2 h15
    refine zq_iload_n (i := 2) C dX7_width_7 rfl rfl ?_
    refine zq_callSi C [zi a2] (wB_isDay l _ _  hJ) ck_X7_115 st_X7_isDay rfl rfl rfl rfl rfl rfl dX7_width_8 (fun r3 N4 hN4 => ?_)
    obtain ⟨rfl, hJ⟩ := hN4
    refine zq_if_eq (tgt := 30) C dX7_width_11 rfl (fun h14 => ?_) (fun h14 => ?_)
    · have hJ := hJ.1 h14
      refine zq_bipush (x := (-2)) C dX7_width_30 bi_m2 ik_m2 ?_
      exact zq_iret C rfl ⟨_, rfl, hJ⟩ dX7_width_32
    · have hJ := hJ.2 h14
      refine zq_iload_n (i := 2) C dX7_width_14 rfl rfl ?_
      refine zq_iload_n (i := 1) C dX7_width_15 rfl rfl ?_
      refine zq_icmp_lt (tgt := 30) C dX7_width_16 rfl (fun h13 => ?_) (fun h13 => ?_)
      · have hJ := hJ.1 h13
        refine zq_bipush (x := (-2)) C dX7_width_30 bi_m2 ik_m2 ?_
        exact zq_iret C rfl ⟨_, rfl, hJ⟩ dX7_width_32
      · have hJ := hJ.2 h13
        refine zq_iload_n (i := 3) C dX7_width_19 rfl rfl ?_
        refine zq_iconst (x := 1) C dX7_width_20 rfl ik_1 ?_
        refine zq_icmp_lt (tgt := 30) C dX7_width_21 rfl (fun h12 => ?_) (fun h12 => ?_)
        · have hJ := hJ.1 h12
          refine zq_bipush (x := (-2)) C dX7_width_30 bi_m2 ik_m2 ?_
          exact zq_iret C rfl ⟨_, rfl, hJ⟩ dX7_width_32
        · have hJ := hJ.2 h12
          refine zq_iload_n (i := 3) C dX7_width_24 rfl rfl ?_
          refine zq_bipush (x := 9) C dX7_width_25 bi_9 ik_9 ?_
          refine zq_icmp_le (tgt := 33) C dX7_width_27 rfl (fun h11 => ?_) (fun h11 => ?_)
          · have hJ := hJ.1 h11
            refine zq_aload_n (i := 0) C dX7_width_33 rfl rfl ?_
            refine zq_getr C fk_X7_16 sx70 rfl dX7_width_34 ?_
            refine zq_aload_n (i := 0) C dX7_width_37 rfl rfl ?_
            refine zq_getr C fk_X7_10 sx70 rfl dX7_width_38 ?_
            refine zq_callVv C [zr 0] (wC_copyFrom l zch10 zch0 _  hJ) ck_X7_64 iv_X0_copyFrom rfl sx10 rfl rfl rfl rfl rfl rfl dX7_width_41 (fun M5 hJ => ?_)
            refine zq_aload_n (i := 0) C dX7_width_44 rfl rfl ?_
            refine zq_getr C fk_X7_16 sx70 rfl dX7_width_45 ?_
            refine zq_iload_n (i := 1) C dX7_width_48 rfl rfl ?_
            refine zq_iload_n (i := 2) C dX7_width_49 rfl rfl ?_
            refine zq_iload_n (i := 3) C dX7_width_50 rfl rfl ?_
            refine zq_callVi C [zi a1, zi a2, zi a3] (wC_setWidths l zch10 _ _ _ _  hJ) ck_X7_171 iv_X0_setWidths rfl sx10 rfl rfl rfl rfl rfl rfl dX7_width_51 (fun r6 M7 hJ => ?_)
            refine zq_istore (lv' := [some (zr 70), some (zi a1), some (zi a2), some (zi a3), some (zi r6)]) C dX7_width_54 (Nat.le_of_ble_eq_true rfl) rfl ?_
            refine zq_aload_n (i := 0) C dX7_width_56 rfl rfl ?_
            refine zq_iload C dX7_width_57 rfl ?_
            refine zq_if_ne (tgt := 67) C dX7_width_59 rfl (fun h10 => ?_) (fun h10 => ?_)
            · have hJ := hJ.1 h10
              refine zq_iload C dX7_width_67 rfl ?_
              refine zq_weak [some (zr 70), some (zi a1), some (zi a2), some (zi a3), none] ⟨Or.inr rfl, Or.inr rfl, Or.inr rfl, Or.inr rfl, Or.inl rfl, trivial⟩ ?_
              exact hj69 _ _ hJ
            · have hJ := hJ.2 h10
              refine zq_bipush (x := (-5)) C dX7_width_62 bi_m5 ik_m5 ?_
              refine zq_goto (tgt := 69) C dX7_width_64 rfl ?_
              refine zq_weak [some (zr 70), some (zi a1), some (zi a2), some (zi a3), none] ⟨Or.inr rfl, Or.inr rfl, Or.inr rfl, Or.inr rfl, Or.inl rfl, trivial⟩ ?_
              exact hj69 _ _ hJ
          · have hJ := hJ.2 h11
            refine zq_bipush (x := (-2)) C dX7_width_30 bi_m2 ik_m2 ?_
            exact zq_iret C rfl ⟨_, rfl, hJ⟩ dX7_width_32
set_option maxRecDepth 100000 in
set_option maxHeartbeats 4000000 in
theorem wB_isSetting (l : Launch) (a1 a2 : Int) (M : zM) {Φ : Int → Prop} (hJ : jB_isSetting a1 a2 M Φ) : zMet l yX7_isSetting cX7_isSetting 2 (some .boolean) 0 0 shX [zi a1, zi a2] M (zI (fun z M' => M = M' ∧ Φ z)) := by
  refine zq_enter [some (zi a1), some (zi a2)] (by decide) rfl (Nat.le_of_ble_eq_true rfl) rfl (fun X C => ?_)
  unfold jB_isSetting at hJ
  refine zq_iload_n (i := 0) C dX7_isSetting_0 rfl rfl ?_
  by_cases g0 : a1 = 0
  · have hJ := hJ.1 g0
    refine zq_lookup (tgt := 28) (off := 27) C dX7_isSetting_1 (by decide +kernel) (by rw [g0]; show Op.lookupswitch.offset [(0, 27), (1, 42)] 61 0 = 27; rw [zlk_hit]) rfl ?_
    refine zq_iload_n (i := 1) C dX7_isSetting_28 rfl rfl ?_
    refine zq_if_lt (tgt := 41) C dX7_isSetting_29 rfl (fun h2 => ?_) (fun h2 => ?_)
    · have hJ := hJ.1 h2
      refine zq_iconst (x := 0) C dX7_isSetting_41 rfl ik_0 ?_
      exact zq_zret C rfl (Or.inl rfl) ⟨_, rfl, rfl, hJ⟩ dX7_isSetting_42
    · have hJ := hJ.2 h2
      refine zq_iload_n (i := 1) C dX7_isSetting_32 rfl rfl ?_
      refine zq_iconst (x := 2) C dX7_isSetting_33 rfl ik_2 ?_
      refine zq_icmp_gt (tgt := 41) C dX7_isSetting_34 rfl (fun h1 => ?_) (fun h1 => ?_)
      · have hJ := hJ.1 h1
        refine zq_iconst (x := 0) C dX7_isSetting_41 rfl ik_0 ?_
        exact zq_zret C rfl (Or.inl rfl) ⟨_, rfl, rfl, hJ⟩ dX7_isSetting_42
      · have hJ := hJ.2 h1
        refine zq_iconst (x := 1) C dX7_isSetting_37 rfl ik_1 ?_
        refine zq_goto (tgt := 42) C dX7_isSetting_38 rfl ?_
        exact zq_zret C rfl (Or.inr rfl) ⟨_, rfl, rfl, hJ⟩ dX7_isSetting_42
  have hJ := hJ.2 g0
  by_cases g1 : a1 = 1
  · have hJ := hJ.1 g1
    refine zq_lookup (tgt := 43) (off := 42) C dX7_isSetting_1 (by decide +kernel) (by rw [g1]; show Op.lookupswitch.offset [(0, 27), (1, 42)] 61 1 = 42; rw [zlk_cons (by decide), zlk_hit]) rfl ?_
    refine zq_iload_n (i := 1) C dX7_isSetting_43 rfl rfl ?_
    refine zq_bipush (x := 10) C dX7_isSetting_44 bi_10 ik_10 ?_
    refine zq_icmp_lt (tgt := 60) C dX7_isSetting_46 rfl (fun h4 => ?_) (fun h4 => ?_)
    · have hJ := hJ.1 h4
      refine zq_iconst (x := 0) C dX7_isSetting_60 rfl ik_0 ?_
      exact zq_zret C rfl (Or.inl rfl) ⟨_, rfl, rfl, hJ⟩ dX7_isSetting_61
    · have hJ := hJ.2 h4
      refine zq_iload_n (i := 1) C dX7_isSetting_49 rfl rfl ?_
      refine zq_sipush (x := 999) C dX7_isSetting_50 si_999 ik_999 ?_
      refine zq_icmp_gt (tgt := 60) C dX7_isSetting_53 rfl (fun h3 => ?_) (fun h3 => ?_)
      · have hJ := hJ.1 h3
        refine zq_iconst (x := 0) C dX7_isSetting_60 rfl ik_0 ?_
        exact zq_zret C rfl (Or.inl rfl) ⟨_, rfl, rfl, hJ⟩ dX7_isSetting_61
      · have hJ := hJ.2 h3
        refine zq_iconst (x := 1) C dX7_isSetting_56 rfl ik_1 ?_
        refine zq_goto (tgt := 61) C dX7_isSetting_57 rfl ?_
        exact zq_zret C rfl (Or.inr rfl) ⟨_, rfl, rfl, hJ⟩ dX7_isSetting_61
  have hJ := hJ.2 g1
  refine zq_lookup (tgt := 62) (off := 61) C dX7_isSetting_1 (by decide +kernel) (by show Op.lookupswitch.offset [(0, 27), (1, 42)] 61 a1 = 61; rw [zlk_cons (Ne.symm g0), zlk_cons (Ne.symm g1)]; rfl) rfl ?_
  refine zq_iconst (x := 0) C dX7_isSetting_62 rfl ik_0 ?_
  exact zq_zret C rfl (Or.inl rfl) ⟨_, rfl, rfl, hJ⟩ dX7_isSetting_63
set_option maxRecDepth 100000 in
set_option maxHeartbeats 4000000 in
theorem wB_set (l : Launch) (a1 a2 : Int) (M : zM) {Φ : Int → zM → Prop} (hJ : jB_set a1 a2 M Φ) : zMet l yX7_set cX7_set 4 (some .int) 4 81 shX [zr 70, zi a1, zi a2] M (zI Φ) := by
  refine zq_enter [some (zr 70), some (zi a1), some (zi a2), none] (by decide) rfl (Nat.le_of_ble_eq_true rfl) rfl (fun X C => ?_)
  unfold jB_set at hJ
  refine zq_iload_n (i := 1) C dX7_set_0 rfl rfl ?_
  refine zq_iload_n (i := 2) C dX7_set_1 rfl rfl ?_
  refine zq_callSi C [zi a1, zi a2] (wB_isSetting l _ _ _  hJ) ck_X7_174 st_X7_isSetting rfl rfl rfl rfl rfl rfl dX7_set_2 (fun r1 N2 hN2 => ?_)
  obtain ⟨rfl, hJ⟩ := hN2
  refine zq_if_ne (tgt := 11) C dX7_set_5 rfl (fun h11 => ?_) (fun h11 => ?_)
  · have hJ := hJ.1 h11
    refine zq_aload_n (i := 0) C dX7_set_11 rfl rfl ?_
    refine zq_getr C fk_X7_10 sx70 rfl dX7_set_12 ?_
    refine zq_getr C fk_X7_178 sx0 rfl dX7_set_15 ?_
    refine zq_iload_n (i := 1) C dX7_set_18 rfl rfl ?_
    obtain ⟨h3, h3', hJ⟩ := hJ
    refine zq_iald C sx9 h3 h3' dX7_set_19 ?_
    refine zq_istoreN_n (i := 3) C (fun v => [some (zr 70), some (zi a1), some (zi a2), some (zi v)]) dX7_set_20 rfl (Nat.le_of_ble_eq_true rfl) (fun _ => rfl) (fun v3_4 hv3_4 => ?_)
    have hJ := hJ v3_4 hv3_4
    refine zq_iload_n (i := 3) C dX7_set_21 rfl rfl ?_
    refine zq_iload_n (i := 2) C dX7_set_22 rfl rfl ?_
    refine zq_icmp_ne (tgt := 29) C dX7_set_23 rfl (fun h10 => ?_) (fun h10 => ?_)
    · have hJ := hJ.1 h10
      refine zq_aload_n (i := 0) C dX7_set_29 rfl rfl ?_
      refine zq_getr C fk_X7_16 sx70 rfl dX7_set_30 ?_
      refine zq_aload_n (i := 0) C dX7_set_33 rfl rfl ?_
      refine zq_getr C fk_X7_10 sx70 rfl dX7_set_34 ?_
      refine zq_callVv C [zr 0] (wC_copyFrom l zch10 zch0 _  hJ) ck_X7_64 iv_X0_copyFrom rfl sx10 rfl rfl rfl rfl rfl rfl dX7_set_37 (fun M5 hJ => ?_)
      refine zq_aload_n (i := 0) C dX7_set_40 rfl rfl ?_
      refine zq_getr C fk_X7_16 sx70 rfl dX7_set_41 ?_
      refine zq_getr C fk_X7_178 sx10 rfl dX7_set_44 ?_
      refine zq_iload_n (i := 1) C dX7_set_47 rfl rfl ?_
      refine zq_iload_n (i := 2) C dX7_set_48 rfl rfl ?_
      obtain ⟨h6, h6', hJ⟩ := hJ
      refine zq_iast C sx19 h6 h6' dX7_set_49 (fun M7 hM7 => ?_)
      have hJ := hJ M7 hM7
      refine zq_aload_n (i := 0) C dX7_set_50 rfl rfl ?_
      refine zq_iload_n (i := 3) C dX7_set_51 rfl rfl ?_
      refine zq_callVi C [zi v3_4] (wB_settle l _ _  hJ) ck_X7_72 iv_X7_settle rfl sx70 rfl rfl rfl rfl rfl rfl dX7_set_52 (fun r8 M9 hJ => ?_)
      exact zq_iret C rfl ⟨_, rfl, hJ⟩ dX7_set_55
    · have hJ := hJ.2 h10
      refine zq_bipush (x := (-5)) C dX7_set_26 bi_m5 ik_m5 ?_
      exact zq_iret C rfl ⟨_, rfl, hJ⟩ dX7_set_28
  · have hJ := hJ.2 h11
    refine zq_bipush (x := (-2)) C dX7_set_8 bi_m2 ik_m2 ?_
    exact zq_iret C rfl ⟨_, rfl, hJ⟩ dX7_set_10
set_option maxRecDepth 100000 in
set_option maxHeartbeats 4000000 in
theorem wH_takeLatest (l : Launch) {c1 : Nat} (hc1 : zCh c1)  (M : zM) {Φ : Int → zM → Prop} (hJ : jH_takeLatest c1 M Φ) : zMet l yX3_takeLatest cX3_takeLatest 2 (some .int) 2 39 shX [zr 71, zr c1] M (zI Φ) := by
  refine zq_enter [some (zr 71), some (zr c1)] (by decide) rfl (Nat.le_of_ble_eq_true rfl) rfl (fun X C => ?_)
  unfold jH_takeLatest at hJ
  refine zq_aload_n (i := 0) C dX3_takeLatest_0 rfl rfl ?_
  refine zq_get (kz := 2) C fk_X3_18 sx71 rfl dX3_takeLatest_1 rfl ?_
  refine zq_if_ne (tgt := 10) C dX3_takeLatest_4 rfl (fun h8 => ?_) (fun h8 => ?_)
  · have hJ := hJ.1 h8
    refine zq_aload_n (i := 0) C dX3_takeLatest_10 rfl rfl ?_
    refine zq_dup C dX3_takeLatest_11 rfl ?_
    refine zq_get (kz := 2) C fk_X3_18 sx71 rfl dX3_takeLatest_12 rfl ?_
    refine zq_iconst (x := 1) C dX3_takeLatest_15 rfl ik_1 ?_
    obtain ⟨h1, hJ⟩ := hJ
    refine zq_isub C dX3_takeLatest_16 h1 ?_
    refine zq_put (kz := 2) C fk_X3_18 sx71 rfl dX3_takeLatest_17 rfl (fun M2 hM2 => ?_)
    have hJ := hJ M2 hM2
    refine zq_aload_n (i := 1) C dX3_takeLatest_20 rfl rfl ?_
    refine zq_aload_n (i := 0) C dX3_takeLatest_21 rfl rfl ?_
    refine zq_getr C fk_X3_11 sx71 rfl dX3_takeLatest_22 ?_
    refine zq_aload_n (i := 0) C dX3_takeLatest_25 rfl rfl ?_
    refine zq_get (kz := 1) C fk_X3_22 sx71 rfl dX3_takeLatest_26 rfl ?_
    refine zq_aload_n (i := 0) C dX3_takeLatest_29 rfl rfl ?_
    refine zq_get (kz := 2) C fk_X3_18 sx71 rfl dX3_takeLatest_30 rfl ?_
    obtain ⟨h3, hJ⟩ := hJ
    refine zq_iadd C dX3_takeLatest_33 h3 ?_
    refine zq_iconst (x := 4) C dX3_takeLatest_34 rfl ik_4 ?_
    obtain ⟨h4, hJ⟩ := hJ
    refine zq_irem C dX3_takeLatest_35 h4 (by decide) ?_
    obtain ⟨h6, h6', hJ⟩ := hJ
    obtain ⟨c5, ec5⟩ : ∃ z : Nat, z = 30 + 10 * Int.toNat (((M2 71 1) + (M2 71 2)) % 4) := ⟨_, rfl⟩
    have hc5 : zCh c5 := zch_st h6 h6' ec5
    have hJ := hJ c5 ec5
    refine zq_aald (q := c5) C sx72 h6 h6' (zch_get h6 h6' ec5) dX3_takeLatest_36 ?_
    refine zq_callVv C [zr c5] (wC_copyFrom l hc1 hc5 _  hJ) ck_X3_25 iv_X0_copyFrom rfl (zs0 hc1) rfl rfl rfl rfl rfl rfl dX3_takeLatest_37 (fun M7 hJ => ?_)
    refine zq_aload_n (i := 0) C dX3_takeLatest_40 rfl rfl ?_
    refine zq_get (kz := 2) C fk_X3_18 sx71 rfl dX3_takeLatest_41 rfl ?_
    exact zq_iret C rfl ⟨_, rfl, hJ⟩ dX3_takeLatest_44
  · have hJ := hJ.2 h8
    refine zq_bipush (x := (-5)) C dX3_takeLatest_7 bi_m5 ik_m5 ?_
    exact zq_iret C rfl ⟨_, rfl, hJ⟩ dX3_takeLatest_9
set_option maxRecDepth 100000 in
set_option maxHeartbeats 4000000 in
theorem wB_undo (l : Launch)  (M : zM) {Φ : Int → zM → Prop} (hJ : jB_undo  M Φ) : zMet l yX7_undo cX7_undo 1 (some .int) 3 60 shX [zr 70] M (zI Φ) := by
  refine zq_enter [some (zr 70)] (by decide) rfl (Nat.le_of_ble_eq_true rfl) rfl (fun X C => ?_)
  unfold jB_undo at hJ
  refine zq_aload_n (i := 0) C dX7_undo_0 rfl rfl ?_
  refine zq_getr C fk_X7_25 sx70 rfl dX7_undo_1 ?_
  refine zq_aload_n (i := 0) C dX7_undo_4 rfl rfl ?_
  refine zq_getr C fk_X7_10 sx70 rfl dX7_undo_5 ?_
  refine zq_callVi C [zr 0] (wH_takeLatest l zch0 _  hJ) ck_X7_188 iv_X3_takeLatest rfl sx71 rfl rfl rfl rfl rfl rfl dX7_undo_8 (fun r1 M2 hJ => ?_)
  exact zq_iret C rfl ⟨_, rfl, hJ⟩ dX7_undo_11
set_option maxRecDepth 100000 in
set_option maxHeartbeats 4000000 in
theorem wC_widthBetween (l : Launch) {b : Nat} (hb : zCh b) (a1 a2 : Int) (M : zM) {Φ : Int → Prop} (hJ : jC_widthBetween b a1 a2 M Φ) : zMet l yX0_widthBetween cX0_widthBetween 5 (some .int) 0 0 shX [zr b, zi a1, zi a2] M (zI (fun z M' => M = M' ∧ Φ z)) := by
  refine zq_enter [some (zr b), some (zi a1), some (zi a2), none, none] (by decide) rfl (Nat.le_of_ble_eq_true rfl) rfl (fun X C => ?_)
  unfold jC_widthBetween at hJ
  have hl5 : ∀ (s : Int × Int), zwh (fun K s => jC_widthBetween_L5 b a1 a2 K Φ M (s.1) (s.2)) s → zG X M 5 [some (zr b), some (zi a1), some (zi a2), some (zi (s.1)), some (zi (s.2))] [] := by
    refine zwh_sound ?_
    intro K5 s hK5 hJ
    obtain ⟨x3, x4⟩ := s
    have hJ : jC_widthBetween_L5 b a1 a2 K5 Φ M x3 x4 := hJ
    show zG X M 5 [some (zr b), some (zi a1), some (zi a2), some (zi x3), some (zi x4)] []
    unfold jC_widthBetween_L5 at hJ
    refine zq_iload C dX0_widthBetween_5 rfl ?_
    refine zq_iload_n (i := 2) C dX0_widthBetween_7 rfl rfl ?_
    refine zq_icmp_ge (tgt := 35) C dX0_widthBetween_8 rfl (fun h6 => ?_) (fun h6 => ?_)
    · have hJ := hJ.1 h6
      refine zq_iload_n (i := 3) C dX0_widthBetween_35 rfl rfl ?_
      exact zq_iret C rfl ⟨_, rfl, rfl, hJ⟩ dX0_widthBetween_36
    · have hJ := hJ.2 h6
      refine zq_iload C dX0_widthBetween_11 rfl ?_
      refine zq_sipush (x := 200) C dX0_widthBetween_13 si_200 ik_200 ?_
      refine zq_icmp_ge (tgt := 35) C dX0_widthBetween_16 rfl (fun h5 => ?_) (fun h5 => ?_)
      · have hJ := hJ.1 h5
        refine zq_iload_n (i := 3) C dX0_widthBetween_35 rfl rfl ?_
        exact zq_iret C rfl ⟨_, rfl, rfl, hJ⟩ dX0_widthBetween_36
      · have hJ := hJ.2 h5
        refine zq_iload_n (i := 3) C dX0_widthBetween_19 rfl rfl ?_
        refine zq_aload_n (i := 0) C dX0_widthBetween_20 rfl rfl ?_
        refine zq_getr C fk_X0_33 (zs0 hb) rfl dX0_widthBetween_21 ?_
        refine zq_iload C dX0_widthBetween_24 rfl ?_
        obtain ⟨h1, h1', hJ⟩ := hJ
        refine zq_iald C (zs8 hb) h1 h1' dX0_widthBetween_26 ?_
        obtain ⟨h2, hJ⟩ := hJ
        refine zq_iadd C dX0_widthBetween_27 h2 ?_
        refine zq_istoreN_n (i := 3) C (fun v => [some (zr b), some (zi a1), some (zi a2), some (zi v), some (zi x4)]) dX0_widthBetween_28 rfl (Nat.le_of_ble_eq_true rfl) (fun _ => rfl) (fun v3_3 hv3_3 => ?_)
        have hJ := hJ v3_3 hv3_3
        obtain ⟨hv4_4, hJ⟩ := hJ
        refine zq_iinc (y := x4 + 1) (lv' := [some (zr b), some (zi a1), some (zi a2), some (zi v3_3), some (zi (x4 + 1))]) C dX0_widthBetween_29 rfl rfl hv4_4 rfl ?_
        obtain ⟨v4_4, ev4_4⟩ : ∃ z, z = x4 + 1 := ⟨_, rfl⟩
        rw [← ev4_4]
        have hJ := hJ v4_4 ev4_4
        refine zq_goto (tgt := 5) C dX0_widthBetween_32 rfl ?_
        exact hK5 _ hJ
  refine zq_iconst (x := 0) C dX0_widthBetween_0 rfl ik_0 ?_
  refine zq_istore_n (i := 3) (lv' := [some (zr b), some (zi a1), some (zi a2), some (zi 0), none]) C dX0_widthBetween_1 rfl (Nat.le_of_ble_eq_true rfl) rfl ?_
  refine zq_iload_n (i := 1) C dX0_widthBetween_2 rfl rfl ?_
  refine zq_istore (lv' := [some (zr b), some (zi a1), some (zi a2), some (zi 0), some (zi a1)]) C dX0_widthBetween_3 (Nat.le_of_ble_eq_true rfl) rfl ?_
  exact hl5 _ hJ
set_option maxRecDepth 100000 in
set_option maxHeartbeats 4000000 in
theorem wC_place (l : Launch) {b : Nat} (hb : zCh b) (a1 : Int) (M : zM) {Φ : Int → Prop} (hJ : jC_place b a1 M Φ) : zMet l yX0_place cX0_place 2 (some .int) 1 24 shX [zr b, zi a1] M (zI (fun z M' => M = M' ∧ Φ z)) := by
  refine zq_enter [some (zr b), some (zi a1)] (by decide) rfl (Nat.le_of_ble_eq_true rfl) rfl (fun X C => ?_)
  unfold jC_place at hJ
  refine zq_aload_n (i := 0) C dX0_place_0 rfl rfl ?_
  refine zq_iconst (x := 0) C dX0_place_1 rfl ik_0 ?_
  refine zq_iload_n (i := 1) C dX0_place_2 rfl rfl ?_
  refine zq_callVi C [zi 0, zi a1] (wC_widthBetween l hb _ _ _  hJ) ck_X0_124 iv_X0_widthBetween rfl (zs0 hb) rfl rfl rfl rfl rfl rfl dX0_place_3 (fun r1 N2 hN2 => ?_)
  obtain ⟨rfl, hJ⟩ := hN2
  exact zq_iret C rfl ⟨_, rfl, rfl, hJ⟩ dX0_place_6
set_option maxRecDepth 100000 in
set_option maxHeartbeats 4000000 in
theorem wC_greatestEnd (l : Launch) {b : Nat} (hb : zCh b)  (M : zM) {Φ : Int → Prop} (hJ : jC_greatestEnd b M Φ) : zMet l yX0_greatestEnd cX0_greatestEnd 3 (some .int) 1 21 shX [zr b] M (zI (fun z M' => M = M' ∧ Φ z)) := by
  refine zq_enter [some (zr b), none, none] (by decide) rfl (Nat.le_of_ble_eq_true rfl) rfl (fun X C => ?_)
  unfold jC_greatestEnd at hJ
  have hl4 : ∀ (s : Int × Int), zwh (fun K s => jC_greatestEnd_L4 b K Φ M (s.1) (s.2)) s → zG X M 4 [some (zr b), some (zi (s.1)), some (zi (s.2))] [] := by
    refine zwh_sound ?_
    intro K4 s hK4 hJ
    obtain ⟨x1, x2⟩ := s
    have hJ : jC_greatestEnd_L4 b K4 Φ M x1 x2 := hJ
    show zG X M 4 [some (zr b), some (zi x1), some (zi x2)] []
    unfold jC_greatestEnd_L4 at hJ
    refine zq_iload_n (i := 2) C dX0_greatestEnd_4 rfl rfl ?_
    refine zq_aload_n (i := 0) C dX0_greatestEnd_5 rfl rfl ?_
    refine zq_get (kz := 0) C fk_X0_45 (zs0 hb) rfl dX0_greatestEnd_6 rfl ?_
    refine zq_icmp_ge (tgt := 28) C dX0_greatestEnd_9 rfl (fun h6 => ?_) (fun h6 => ?_)
    · have hJ := hJ.1 h6
      refine zq_iload_n (i := 1) C dX0_greatestEnd_28 rfl rfl ?_
      exact zq_iret C rfl ⟨_, rfl, rfl, hJ⟩ dX0_greatestEnd_29
    · have hJ := hJ.2 h6
      refine zq_iload_n (i := 1) C dX0_greatestEnd_12 rfl rfl ?_
      refine zq_aload_n (i := 0) C dX0_greatestEnd_13 rfl rfl ?_
      refine zq_iload_n (i := 2) C dX0_greatestEnd_14 rfl rfl ?_
      refine zq_callVi C [zi x2] (wC_endOf l hb _ _  hJ) ck_X0_97 iv_X0_endOf rfl (zs0 hb) rfl rfl rfl rfl rfl rfl dX0_greatestEnd_15 (fun r1 N2 hN2 => ?_)
      obtain ⟨rfl, hJ⟩ := hN2
      refine zq_max C mk_X0_112 rfl ⟨Nat.le_of_ble_eq_true rfl, Nat.le_of_ble_eq_true rfl⟩ dX0_greatestEnd_18 ?_
      refine zq_istoreN_n (i := 1) C (fun v => [some (zr b), some (zi v), some (zi x2)]) dX0_greatestEnd_21 rfl (Nat.le_of_ble_eq_true rfl) (fun _ => rfl) (fun v1_4 hv1_4 => ?_)
      have hJ := hJ v1_4 hv1_4
      obtain ⟨hv2_5, hJ⟩ := hJ
      refine zq_iinc (y := x2 + 1) (lv' := [some (zr b), some (zi v1_4), some (zi (x2 + 1))]) C dX0_greatestEnd_22 rfl rfl hv2_5 rfl ?_
      obtain ⟨v2_5, ev2_5⟩ : ∃ z, z = x2 + 1 := ⟨_, rfl⟩
      rw [← ev2_5]
      have hJ := hJ v2_5 ev2_5
      refine zq_goto (tgt := 4) C dX0_greatestEnd_25 rfl ?_
      exact hK4 _ hJ
  refine zq_iconst (x := 0) C dX0_greatestEnd_0 rfl ik_0 ?_
  refine zq_istore_n (i := 1) (lv' := [some (zr b), some (zi 0), none]) C dX0_greatestEnd_1 rfl (Nat.le_of_ble_eq_true rfl) rfl ?_
  refine zq_iconst (x := 0) C dX0_greatestEnd_2 rfl ik_0 ?_
  refine zq_istore_n (i := 2) (lv' := [some (zr b), some (zi 0), some (zi 0)]) C dX0_greatestEnd_3 rfl (Nat.le_of_ble_eq_true rfl) rfl ?_
  exact hl4 _ hJ
set_option maxRecDepth 100000 in
set_option maxHeartbeats 4000000 in
theorem wP_findLatest (l : Launch) {c1 : Nat} (hc1 : zCh c1)  (M : zM) {Φ : zM → Prop} (hJ : jP_findLatest c1 M Φ) : zMet l yX5_findLatest cX5_findLatest 8 none 2 43 shX [zr 78, zr c1] M (zU Φ) := by
  refine zq_enter [some (zr 78), some (zr c1), none, none, none, none, none, none] (by decide) rfl (Nat.le_of_ble_eq_true rfl) rfl (fun X C => ?_)
  unfold jP_findLatest at hJ
  have hl12 : ∀ (x2 : Int) (s : Int × zM), zwh (fun K s => jP_findLatest_L12 c1 K Φ x2 (s.1) (s.2)) s → zG X (s.2) 12 [some (zr 78), some (zr c1), some (zi x2), some (zi (s.1)), none, none, none, none] [] := by
    intro x2
    refine zwh_sound ?_
    intro K12 s hK12 hJ
    obtain ⟨x3, M⟩ := s
    have hJ : jP_findLatest_L12 c1 K12 Φ x2 x3 M := hJ
    show zG X M 12 [some (zr 78), some (zr c1), some (zi x2), some (zi x3), none, none, none, none] []
    unfold jP_findLatest_L12 at hJ
    have hl32 : ∀ (x3 x4 : Int) (M : zM) (s : Int × Int), zwh (fun K s => jP_findLatest_L32 c1 K12 K Φ x2 x3 x4 M (s.1) (s.2)) s → zG X M 32 [some (zr 78), some (zr c1), some (zi x2), some (zi x3), some (zi x4), some (zi (s.1)), some (zi (s.2)), none] [] := by
      intro x3 x4 M
      refine zwh_sound ?_
      intro K32 s hK32 hJ
      obtain ⟨x5, x6⟩ := s
      have hJ : jP_findLatest_L32 c1 K12 K32 Φ x2 x3 x4 M x5 x6 := hJ
      show zG X M 32 [some (zr 78), some (zr c1), some (zi x2), some (zi x3), some (zi x4), some (zi x5), some (zi x6), none] []
      unfold jP_findLatest_L32 at hJ
      refine zq_iload C dX5_findLatest_32 rfl ?_
      refine zq_aload_n (i := 1) C dX5_findLatest_34 rfl rfl ?_
      refine zq_get (kz := 0) C fk_X5_25 (zs0 hc1) rfl dX5_findLatest_35 rfl ?_
      refine zq_icmp_ge (tgt := 81) C dX5_findLatest_38 rfl (fun h24 => ?_) (fun h24 => ?_)
      · have hJ := hJ.1 h24
        refine zq_aload_n (i := 0) C dX5_findLatest_81 rfl rfl ?_
        refine zq_getr C fk_X5_18 sx78 rfl dX5_findLatest_82 ?_
        refine zq_iload C dX5_findLatest_85 rfl ?_
        refine zq_iload C dX5_findLatest_87 rfl ?_
        refine zq_aload_n (i := 1) C dX5_findLatest_89 rfl rfl ?_
        refine zq_getr C fk_X5_58 (zs0 hc1) rfl dX5_findLatest_90 ?_
        refine zq_iload C dX5_findLatest_93 rfl ?_
        obtain ⟨h9, h9', hJ⟩ := hJ
        refine zq_iald C (zs4 hc1) h9 h9' dX5_findLatest_95 ?_
        obtain ⟨h10, hJ⟩ := hJ
        refine zq_isub C dX5_findLatest_96 h10 ?_
        obtain ⟨h11, h11', hJ⟩ := hJ
        refine zq_iast C sx81 h11 h11' dX5_findLatest_97 (fun M12 hM12 => ?_)
        have hJ := hJ M12 hM12
        obtain ⟨hv3_13, hJ⟩ := hJ
        refine zq_iinc (y := x3 + (-1)) (lv' := [some (zr 78), some (zr c1), some (zi x2), some (zi (x3 + (-1))), some (zi x4), some (zi x5), some (zi x6), none]) C dX5_findLatest_98 rfl rfl hv3_13 rfl ?_
        obtain ⟨v3_13, ev3_13⟩ : ∃ z, z = x3 + (-1) := ⟨_, rfl⟩
        rw [← ev3_13]
        have hJ := hJ v3_13 ev3_13
        refine zq_goto (tgt := 12) C dX5_findLatest_101 rfl ?_
        refine zq_weak [some (zr 78), some (zr c1), some (zi x2), some (zi v3_13), none, none, none, none] ⟨Or.inr rfl, Or.inr rfl, Or.inr rfl, Or.inr rfl, Or.inl rfl, Or.inl rfl, Or.inl rfl, Or.inl rfl, trivial⟩ ?_
        exact hK12 _ hJ
      · have hJ := hJ.2 h24
        refine zq_aload_n (i := 0) C dX5_findLatest_41 rfl rfl ?_
        refine zq_getr C fk_X5_9 sx78 rfl dX5_findLatest_42 ?_
        refine zq_iload C dX5_findLatest_45 rfl ?_
        obtain ⟨h14, h14', hJ⟩ := hJ
        refine zq_iald C sx79 h14 h14' dX5_findLatest_47 ?_
        refine zq_istoreN C (fun v => [some (zr 78), some (zr c1), some (zi x2), some (zi x3), some (zi x4), some (zi x5), some (zi x6), some (zi v)]) dX5_findLatest_48 (Nat.le_of_ble_eq_true rfl) (fun _ => rfl) (fun v7_15 hv7_15 => ?_)
        have hJ := hJ v7_15 hv7_15
        refine zq_aload_n (i := 0) C dX5_findLatest_50 rfl rfl ?_
        refine zq_iload C dX5_findLatest_51 rfl ?_
        refine zq_iload C dX5_findLatest_53 rfl ?_
        refine zq_callVi C [zi v7_15, zi x4] (wP_isPushed l _ _ _  hJ) ck_X5_54 iv_X5_isPushed rfl sx78 rfl rfl rfl rfl rfl rfl dX5_findLatest_55 (fun r16 N17 hN17 => ?_)
        obtain ⟨rfl, hJ⟩ := hN17
        refine zq_if_eq (tgt := 75) C dX5_findLatest_58 rfl (fun h23 => ?_) (fun h23 => ?_)
        · have hJ := hJ.1 h23
          obtain ⟨hv6_18, hJ⟩ := hJ
          refine zq_iinc (y := x6 + 1) (lv' := [some (zr 78), some (zr c1), some (zi x2), some (zi x3), some (zi x4), some (zi x5), some (zi (x6 + 1)), some (zi v7_15)]) C dX5_findLatest_75 rfl rfl hv6_18 rfl ?_
          obtain ⟨v6_18, ev6_18⟩ : ∃ z, z = x6 + 1 := ⟨_, rfl⟩
          rw [← ev6_18]
          have hJ := hJ v6_18 ev6_18
          refine zq_goto (tgt := 32) C dX5_findLatest_78 rfl ?_
          refine zq_weak [some (zr 78), some (zr c1), some (zi x2), some (zi x3), some (zi x4), some (zi x5), some (zi v6_18), none] ⟨Or.inr rfl, Or.inr rfl, Or.inr rfl, Or.inr rfl, Or.inr rfl, Or.inr rfl, Or.inr rfl, Or.inl rfl, trivial⟩ ?_
          exact hK32 _ hJ
        · have hJ := hJ.2 h23
          refine zq_iload C dX5_findLatest_61 rfl ?_
          refine zq_aload_n (i := 0) C dX5_findLatest_63 rfl rfl ?_
          refine zq_getr C fk_X5_18 sx78 rfl dX5_findLatest_64 ?_
          refine zq_iload C dX5_findLatest_67 rfl ?_
          obtain ⟨h19, h19', hJ⟩ := hJ
          refine zq_iald C sx81 h19 h19' dX5_findLatest_69 ?_
          refine zq_min C mk_X5_71 rfl ⟨Nat.le_of_ble_eq_true rfl, Nat.le_of_ble_eq_true rfl⟩ dX5_findLatest_70 ?_
          refine zq_istoreN C (fun v => [some (zr 78), some (zr c1), some (zi x2), some (zi x3), some (zi x4), some (zi v), some (zi x6), some (zi v7_15)]) dX5_findLatest_73 (Nat.le_of_ble_eq_true rfl) (fun _ => rfl) (fun v5_21 hv5_21 => ?_)
          have hJ := hJ v5_21 hv5_21
          obtain ⟨hv6_22, hJ⟩ := hJ
          refine zq_iinc (y := x6 + 1) (lv' := [some (zr 78), some (zr c1), some (zi x2), some (zi x3), some (zi x4), some (zi v5_21), some (zi (x6 + 1)), some (zi v7_15)]) C dX5_findLatest_75 rfl rfl hv6_22 rfl ?_
          obtain ⟨v6_22, ev6_22⟩ : ∃ z, z = x6 + 1 := ⟨_, rfl⟩
          rw [← ev6_22]
          have hJ := hJ v6_22 ev6_22
          refine zq_goto (tgt := 32) C dX5_findLatest_78 rfl ?_
          refine zq_weak [some (zr 78), some (zr c1), some (zi x2), some (zi x3), some (zi x4), some (zi v5_21), some (zi v6_22), none] ⟨Or.inr rfl, Or.inr rfl, Or.inr rfl, Or.inr rfl, Or.inr rfl, Or.inr rfl, Or.inr rfl, Or.inl rfl, trivial⟩ ?_
          exact hK32 _ hJ
    refine zq_iload_n (i := 3) C dX5_findLatest_12 rfl rfl ?_
    refine zq_if_lt (tgt := 104) C dX5_findLatest_13 rfl (fun h25 => ?_) (fun h25 => ?_)
    · have hJ := hJ.1 h25
      exact zq_vret C rfl hJ dX5_findLatest_104
    · have hJ := hJ.2 h25
      refine zq_aload_n (i := 0) C dX5_findLatest_16 rfl rfl ?_
      refine zq_getr C fk_X5_9 sx78 rfl dX5_findLatest_17 ?_
      refine zq_iload_n (i := 3) C dX5_findLatest_20 rfl rfl ?_
      obtain ⟨h5, h5', hJ⟩ := hJ
      refine zq_iald C sx79 h5 h5' dX5_findLatest_21 ?_
      refine zq_istoreN C (fun v => [some (zr 78), some (zr c1), some (zi x2), some (zi x3), some (zi v), none, none, none]) dX5_findLatest_22 (Nat.le_of_ble_eq_true rfl) (fun _ => rfl) (fun v4_6 hv4_6 => ?_)
      have hJ := hJ v4_6 hv4_6
      refine zq_iload_n (i := 2) C dX5_findLatest_24 rfl rfl ?_
      refine zq_istore (lv' := [some (zr 78), some (zr c1), some (zi x2), some (zi x3), some (zi v4_6), some (zi x2), none, none]) C dX5_findLatest_25 (Nat.le_of_ble_eq_true rfl) rfl ?_
      refine zq_iload_n (i := 3) C dX5_findLatest_27 rfl rfl ?_
      refine zq_iconst (x := 1) C dX5_findLatest_28 rfl ik_1 ?_
      obtain ⟨h7, hJ⟩ := hJ
      refine zq_iadd C dX5_findLatest_29 h7 ?_
      refine zq_istoreN C (fun v => [some (zr 78), some (zr c1), some (zi x2), some (zi x3), some (zi v4_6), some (zi x2), some (zi v), none]) dX5_findLatest_30 (Nat.le_of_ble_eq_true rfl) (fun _ => rfl) (fun v6_8 hv6_8 => ?_)
      have hJ := hJ v6_8 hv6_8
      exact hl32 _ _ _ _ hJ
  refine zq_aload_n (i := 1) C dX5_findLatest_0 rfl rfl ?_
  refine zq_callVi C [] (wC_greatestEnd l hc1 _  hJ) ck_X5_67 iv_X0_greatestEnd rfl (zs0 hc1) rfl rfl rfl rfl rfl rfl dX5_findLatest_1 (fun r1 N2 hN2 => ?_)
  obtain ⟨rfl, hJ⟩ := hN2
  refine zq_istore_n (i := 2) (lv' := [some (zr 78), some (zr c1), some (zi r1), none, none, none, none, none]) C dX5_findLatest_4 rfl (Nat.le_of_ble_eq_true rfl) rfl ?_
  refine zq_aload_n (i := 1) C dX5_findLatest_5 rfl rfl ?_
  refine zq_get (kz := 0) C fk_X5_25 (zs0 hc1) rfl dX5_findLatest_6 rfl ?_
  refine zq_iconst (x := 1) C dX5_findLatest_9 rfl ik_1 ?_
  obtain ⟨h3, hJ⟩ := hJ
  refine zq_isub C dX5_findLatest_10 h3 ?_
  refine zq_istoreN_n (i := 3) C (fun v => [some (zr 78), some (zr c1), some (zi r1), some (zi v), none, none, none, none]) dX5_findLatest_11 rfl (Nat.le_of_ble_eq_true rfl) (fun _ => rfl) (fun v3_4 hv3_4 => ?_)
  have hJ := hJ v3_4 hv3_4
  exact hl12 _ _ hJ
set_option maxRecDepth 100000 in
set_option maxHeartbeats 4000000 in
theorem wB_latestOf (l : Launch) (a1 : Int) (M : zM) {Φ : Int → zM → Prop} (hJ : jB_latestOf a1 M Φ) : zMet l yX7_latestOf cX7_latestOf 2 (some .int) 3 70 shX [zr 70, zi a1] M (zI Φ) := by
  refine zq_enter [some (zr 70), some (zi a1)] (by decide) rfl (Nat.le_of_ble_eq_true rfl) rfl (fun X C => ?_)
  unfold jB_latestOf at hJ
  refine zq_aload_n (i := 0) C dX7_latestOf_0 rfl rfl ?_
  refine zq_getr C fk_X7_39 sx70 rfl dX7_latestOf_1 ?_
  refine zq_aload_n (i := 0) C dX7_latestOf_4 rfl rfl ?_
  refine zq_getr C fk_X7_10 sx70 rfl dX7_latestOf_5 ?_
  refine zq_callVv C [zr 0] (wP_read l zch0 _  hJ) ck_X7_154 iv_X5_read rfl sx78 rfl rfl rfl rfl rfl rfl dX7_latestOf_8 (fun M1 hJ => ?_)
  refine zq_aload_n (i := 0) C dX7_latestOf_11 rfl rfl ?_
  refine zq_getr C fk_X7_39 sx70 rfl dX7_latestOf_12 ?_
  refine zq_aload_n (i := 0) C dX7_latestOf_15 rfl rfl ?_
  refine zq_getr C fk_X7_10 sx70 rfl dX7_latestOf_16 ?_
  refine zq_callVv C [zr 0] (wP_findLatest l zch0 _  hJ) ck_X7_327 iv_X5_findLatest rfl sx78 rfl rfl rfl rfl rfl rfl dX7_latestOf_19 (fun M2 hJ => ?_)
  refine zq_aload_n (i := 0) C dX7_latestOf_22 rfl rfl ?_
  refine zq_getr C fk_X7_39 sx70 rfl dX7_latestOf_23 ?_
  refine zq_getr C fk_X7_161 sx78 rfl dX7_latestOf_26 ?_
  refine zq_iload_n (i := 1) C dX7_latestOf_29 rfl rfl ?_
  obtain ⟨h3, h3', hJ⟩ := hJ
  refine zq_iald C sx81 h3 h3' dX7_latestOf_30 ?_
  exact zq_iret C rfl ⟨_, rfl, hJ⟩ dX7_latestOf_31
set_option maxRecDepth 100000 in
set_option maxHeartbeats 4000000 in
theorem wC_arrowsFrom (l : Launch) {b : Nat} (hb : zCh b) (a1 : Int) (M : zM) {Φ : Int → Prop} (hJ : jC_arrowsFrom b a1 M Φ) : zMet l yX0_arrowsFrom cX0_arrowsFrom 4 (some .int) 0 0 shX [zr b, zi a1] M (zI (fun z M' => M = M' ∧ Φ z)) := by
  refine zq_enter [some (zr b), some (zi a1), none, none] (by decide) rfl (Nat.le_of_ble_eq_true rfl) rfl (fun X C => ?_)
  unfold jC_arrowsFrom at hJ
  have hl4 : ∀ (s : Int × Int), zwh (fun K s => jC_arrowsFrom_L4 b a1 K Φ M (s.1) (s.2)) s → zG X M 4 [some (zr b), some (zi a1), some (zi (s.1)), some (zi (s.2))] [] := by
    refine zwh_sound ?_
    intro K4 s hK4 hJ
    obtain ⟨x2, x3⟩ := s
    have hJ : jC_arrowsFrom_L4 b a1 K4 Φ M x2 x3 := hJ
    show zG X M 4 [some (zr b), some (zi a1), some (zi x2), some (zi x3)] []
    unfold jC_arrowsFrom_L4 at hJ
    refine zq_iload_n (i := 3) C dX0_arrowsFrom_4 rfl rfl ?_
    refine zq_aload_n (i := 0) C dX0_arrowsFrom_5 rfl rfl ?_
    refine zq_get (kz := 6) C fk_X0_58 (zs0 hb) rfl dX0_arrowsFrom_6 rfl ?_
    refine zq_icmp_ge (tgt := 36) C dX0_arrowsFrom_9 rfl (fun h9 => ?_) (fun h9 => ?_)
    · have hJ := hJ.1 h9
      refine zq_iload_n (i := 2) C dX0_arrowsFrom_36 rfl rfl ?_
      exact zq_iret C rfl ⟨_, rfl, rfl, hJ⟩ dX0_arrowsFrom_37
    · have hJ := hJ.2 h9
      refine zq_iload_n (i := 2) C dX0_arrowsFrom_12 rfl rfl ?_
      refine zq_aload_n (i := 0) C dX0_arrowsFrom_13 rfl rfl ?_
      refine zq_getr C fk_X0_27 (zs0 hb) rfl dX0_arrowsFrom_14 ?_
      refine zq_iload_n (i := 3) C dX0_arrowsFrom_17 rfl rfl ?_
      obtain ⟨h1, h1', hJ⟩ := hJ
      refine zq_iald C (zs6 hb) h1 h1' dX0_arrowsFrom_18 ?_
      refine zq_iload_n (i := 1) C dX0_arrowsFrom_19 rfl rfl ?_
      refine zq_icmp_ne (tgt := 27) C dX0_arrowsFrom_20 rfl (fun h8 => ?_) (fun h8 => ?_)
      · have hJ := hJ.1 h8
        refine zq_iconst (x := 0) C dX0_arrowsFrom_27 rfl ik_0 ?_
        obtain ⟨h2, hJ⟩ := hJ
        refine zq_iadd C dX0_arrowsFrom_28 h2 ?_
        refine zq_istoreN_n (i := 2) C (fun v => [some (zr b), some (zi a1), some (zi v), some (zi x3)]) dX0_arrowsFrom_29 rfl (Nat.le_of_ble_eq_true rfl) (fun _ => rfl) (fun v2_3 hv2_3 => ?_)
        have hJ := hJ v2_3 hv2_3
        obtain ⟨hv3_4, hJ⟩ := hJ
        refine zq_iinc (y := x3 + 1) (lv' := [some (zr b), some (zi a1), some (zi v2_3), some (zi (x3 + 1))]) C dX0_arrowsFrom_30 rfl rfl hv3_4 rfl ?_
        obtain ⟨v3_4, ev3_4⟩ : ∃ z, z = x3 + 1 := ⟨_, rfl⟩
        rw [← ev3_4]
        have hJ := hJ v3_4 ev3_4
        refine zq_goto (tgt := 4) C dX0_arrowsFrom_33 rfl ?_
        exact hK4 _ hJ
      · have hJ := hJ.2 h8
        refine zq_iconst (x := 1) C dX0_arrowsFrom_23 rfl ik_1 ?_
        refine zq_goto (tgt := 28) C dX0_arrowsFrom_24 rfl ?_
        obtain ⟨h5, hJ⟩ := hJ
        refine zq_iadd C dX0_arrowsFrom_28 h5 ?_
        refine zq_istoreN_n (i := 2) C (fun v => [some (zr b), some (zi a1), some (zi v), some (zi x3)]) dX0_arrowsFrom_29 rfl (Nat.le_of_ble_eq_true rfl) (fun _ => rfl) (fun v2_6 hv2_6 => ?_)
        have hJ := hJ v2_6 hv2_6
        obtain ⟨hv3_7, hJ⟩ := hJ
        refine zq_iinc (y := x3 + 1) (lv' := [some (zr b), some (zi a1), some (zi v2_6), some (zi (x3 + 1))]) C dX0_arrowsFrom_30 rfl rfl hv3_7 rfl ?_
        obtain ⟨v3_7, ev3_7⟩ : ∃ z, z = x3 + 1 := ⟨_, rfl⟩
        rw [← ev3_7]
        have hJ := hJ v3_7 ev3_7
        refine zq_goto (tgt := 4) C dX0_arrowsFrom_33 rfl ?_
        exact hK4 _ hJ
  refine zq_iconst (x := 0) C dX0_arrowsFrom_0 rfl ik_0 ?_
  refine zq_istore_n (i := 2) (lv' := [some (zr b), some (zi a1), some (zi 0), none]) C dX0_arrowsFrom_1 rfl (Nat.le_of_ble_eq_true rfl) rfl ?_
  refine zq_iconst (x := 0) C dX0_arrowsFrom_2 rfl ik_0 ?_
  refine zq_istore_n (i := 3) (lv' := [some (zr b), some (zi a1), some (zi 0), some (zi 0)]) C dX0_arrowsFrom_3 rfl (Nat.le_of_ble_eq_true rfl) rfl ?_
  exact hl4 _ hJ
set_option maxRecDepth 100000 in
set_option maxHeartbeats 4000000 in
theorem wC_arrowsTo (l : Launch) {b : Nat} (hb : zCh b) (a1 : Int) (M : zM) {Φ : Int → Prop} (hJ : jC_arrowsTo b a1 M Φ) : zMet l yX0_arrowsTo cX0_arrowsTo 4 (some .int) 0 0 shX [zr b, zi a1] M (zI (fun z M' => M = M' ∧ Φ z)) := by
  refine zq_enter [some (zr b), some (zi a1), none, none] (by decide) rfl (Nat.le_of_ble_eq_true rfl) rfl (fun X C => ?_)
  unfold jC_arrowsTo at hJ
  have hl4 : ∀ (s : Int × Int), zwh (fun K s => jC_arrowsTo_L4 b a1 K Φ M (s.1) (s.2)) s → zG X M 4 [some (zr b), some (zi a1), some (zi (s.1)), some (zi (s.2))] [] := by
    refine zwh_sound ?_
    intro K4 s hK4 hJ
    obtain ⟨x2, x3⟩ := s
    have hJ : jC_arrowsTo_L4 b a1 K4 Φ M x2 x3 := hJ
    show zG X M 4 [some (zr b), some (zi a1), some (zi x2), some (zi x3)] []
    unfold jC_arrowsTo_L4 at hJ
    refine zq_iload_n (i := 3) C dX0_arrowsTo_4 rfl rfl ?_
    refine zq_aload_n (i := 0) C dX0_arrowsTo_5 rfl rfl ?_
    refine zq_get (kz := 6) C fk_X0_58 (zs0 hb) rfl dX0_arrowsTo_6 rfl ?_
    refine zq_icmp_ge (tgt := 36) C dX0_arrowsTo_9 rfl (fun h9 => ?_) (fun h9 => ?_)
    · have hJ := hJ.1 h9
      refine zq_iload_n (i := 2) C dX0_arrowsTo_36 rfl rfl ?_
      exact zq_iret C rfl ⟨_, rfl, rfl, hJ⟩ dX0_arrowsTo_37
    · have hJ := hJ.2 h9
      refine zq_iload_n (i := 2) C dX0_arrowsTo_12 rfl rfl ?_
      refine zq_aload_n (i := 0) C dX0_arrowsTo_13 rfl rfl ?_
      refine zq_getr C fk_X0_30 (zs0 hb) rfl dX0_arrowsTo_14 ?_
      refine zq_iload_n (i := 3) C dX0_arrowsTo_17 rfl rfl ?_
      obtain ⟨h1, h1', hJ⟩ := hJ
      refine zq_iald C (zs7 hb) h1 h1' dX0_arrowsTo_18 ?_
      refine zq_iload_n (i := 1) C dX0_arrowsTo_19 rfl rfl ?_
      refine zq_icmp_ne (tgt := 27) C dX0_arrowsTo_20 rfl (fun h8 => ?_) (fun h8 => ?_)
      · have hJ := hJ.1 h8
        refine zq_iconst (x := 0) C dX0_arrowsTo_27 rfl ik_0 ?_
        obtain ⟨h2, hJ⟩ := hJ
        refine zq_iadd C dX0_arrowsTo_28 h2 ?_
        refine zq_istoreN_n (i := 2) C (fun v => [some (zr b), some (zi a1), some (zi v), some (zi x3)]) dX0_arrowsTo_29 rfl (Nat.le_of_ble_eq_true rfl) (fun _ => rfl) (fun v2_3 hv2_3 => ?_)
        have hJ := hJ v2_3 hv2_3
        obtain ⟨hv3_4, hJ⟩ := hJ
        refine zq_iinc (y := x3 + 1) (lv' := [some (zr b), some (zi a1), some (zi v2_3), some (zi (x3 + 1))]) C dX0_arrowsTo_30 rfl rfl hv3_4 rfl ?_
        obtain ⟨v3_4, ev3_4⟩ : ∃ z, z = x3 + 1 := ⟨_, rfl⟩
        rw [← ev3_4]
        have hJ := hJ v3_4 ev3_4
        refine zq_goto (tgt := 4) C dX0_arrowsTo_33 rfl ?_
        exact hK4 _ hJ
      · have hJ := hJ.2 h8
        refine zq_iconst (x := 1) C dX0_arrowsTo_23 rfl ik_1 ?_
        refine zq_goto (tgt := 28) C dX0_arrowsTo_24 rfl ?_
        obtain ⟨h5, hJ⟩ := hJ
        refine zq_iadd C dX0_arrowsTo_28 h5 ?_
        refine zq_istoreN_n (i := 2) C (fun v => [some (zr b), some (zi a1), some (zi v), some (zi x3)]) dX0_arrowsTo_29 rfl (Nat.le_of_ble_eq_true rfl) (fun _ => rfl) (fun v2_6 hv2_6 => ?_)
        have hJ := hJ v2_6 hv2_6
        obtain ⟨hv3_7, hJ⟩ := hJ
        refine zq_iinc (y := x3 + 1) (lv' := [some (zr b), some (zi a1), some (zi v2_6), some (zi (x3 + 1))]) C dX0_arrowsTo_30 rfl rfl hv3_7 rfl ?_
        obtain ⟨v3_7, ev3_7⟩ : ∃ z, z = x3 + 1 := ⟨_, rfl⟩
        rw [← ev3_7]
        have hJ := hJ v3_7 ev3_7
        refine zq_goto (tgt := 4) C dX0_arrowsTo_33 rfl ?_
        exact hK4 _ hJ
  refine zq_iconst (x := 0) C dX0_arrowsTo_0 rfl ik_0 ?_
  refine zq_istore_n (i := 2) (lv' := [some (zr b), some (zi a1), some (zi 0), none]) C dX0_arrowsTo_1 rfl (Nat.le_of_ble_eq_true rfl) rfl ?_
  refine zq_iconst (x := 0) C dX0_arrowsTo_2 rfl ik_0 ?_
  refine zq_istore_n (i := 3) (lv' := [some (zr b), some (zi a1), some (zi 0), some (zi 0)]) C dX0_arrowsTo_3 rfl (Nat.le_of_ble_eq_true rfl) rfl ?_
  exact hl4 _ hJ
set_option maxRecDepth 100000 in
set_option maxHeartbeats 4000000 in
theorem wK_cut (l : Launch) {c1 : Nat} (hc1 : zCh c1)  (M : zM) {Φ : zM → Prop} (hJ : jK_cut c1 M Φ) : zMet l yX1_cut cX1_cut 5 none 2 43 shX [zr 85, zr c1] M (zU Φ) := by
  refine zq_enter [some (zr 85), some (zr c1), none, none, none] (by decide) rfl (Nat.le_of_ble_eq_true rfl) rfl (fun X C => ?_)
  unfold jK_cut at hJ
  have hl21 : ∀ (x2 : Int) (s : Int × Int × zM), zwh (fun K s => jK_cut_L21 c1 K Φ x2 (s.1) (s.2.1) (s.2.2)) s → zG X (s.2.2) 21 [some (zr 85), some (zr c1), some (zi x2), some (zi (s.1)), some (zi (s.2.1))] [] := by
    intro x2
    refine zwh_sound ?_
    intro K21 s hK21 hJ
    obtain ⟨x3, x4, M⟩ := s
    have hJ : jK_cut_L21 c1 K21 Φ x2 x3 x4 M := hJ
    show zG X M 21 [some (zr 85), some (zr c1), some (zi x2), some (zi x3), some (zi x4)] []
    unfold jK_cut_L21 at hJ
    have hj71 : ∀ (x3 x4 : Int) (M : zM), jK_cut_J71 c1 K21 Φ x2 x3 x4 M → zG X M 71 [some (zr 85), some (zr c1), some (zi x2), some (zi x3), some (zi x4)] [] := by
      intro x3 x4 M hJ
      unfold jK_cut_J71 at hJ
      refine zq_iload_n (i := 3) C dX1_cut_71 rfl rfl ?_
      refine zq_aload_n (i := 1) C dX1_cut_72 rfl rfl ?_
      refine zq_getr C fk_X1_31 (zs0 hc1) rfl dX1_cut_73 ?_
      refine zq_iload C dX1_cut_76 rfl ?_
      obtain ⟨h13, h13', hJ⟩ := hJ
      refine zq_iald C (zs8 hc1) h13 h13' dX1_cut_78 ?_
      obtain ⟨h14, hJ⟩ := hJ
      refine zq_isub C dX1_cut_79 h14 ?_
      refine zq_istoreN_n (i := 3) C (fun v => [some (zr 85), some (zr c1), some (zi x2), some (zi v), some (zi x4)]) dX1_cut_80 rfl (Nat.le_of_ble_eq_true rfl) (fun _ => rfl) (fun v3_15 hv3_15 => ?_)
      have hJ := hJ v3_15 hv3_15
      obtain ⟨hv4_16, hJ⟩ := hJ
      refine zq_iinc (y := x4 + 1) (lv' := [some (zr 85), some (zr c1), some (zi x2), some (zi v3_15), some (zi (x4 + 1))]) C dX1_cut_81 rfl rfl hv4_16 rfl ?_
      obtain ⟨v4_16, ev4_16⟩ : ∃ z, z = x4 + 1 := ⟨_, rfl⟩
      rw [← ev4_16]
      have hJ := hJ v4_16 ev4_16
      refine zq_goto (tgt := 21) C dX1_cut_84 rfl ?_
      exact hK21 _ hJ
    have hj43 : ∀ (x4 : Int) (M : zM), jK_cut_J43 c1 K21 Φ x2 x4 M → zG X M 43 [some (zr 85), some (zr c1), some (zi x2), none, some (zi x4)] [] := by
      intro x4 M hJ
      unfold jK_cut_J43 at hJ
      refine zq_aload_n (i := 0) C dX1_cut_43 rfl rfl ?_
      refine zq_getr C fk_X1_9 sx85 rfl dX1_cut_44 ?_
      refine zq_aload_n (i := 0) C dX1_cut_47 rfl rfl ?_
      refine zq_get (kz := 0) C fk_X1_27 sx85 rfl dX1_cut_48 rfl ?_
      refine zq_iload C dX1_cut_51 rfl ?_
      obtain ⟨h8, h8', hJ⟩ := hJ
      refine zq_iast C sx86 h8 h8' dX1_cut_53 (fun M9 hM9 => ?_)
      have hJ := hJ M9 hM9
      refine zq_aload_n (i := 0) C dX1_cut_54 rfl rfl ?_
      refine zq_dup C dX1_cut_55 rfl ?_
      refine zq_get (kz := 0) C fk_X1_27 sx85 rfl dX1_cut_56 rfl ?_
      refine zq_iconst (x := 1) C dX1_cut_59 rfl ik_1 ?_
      obtain ⟨h10, hJ⟩ := hJ
      refine zq_iadd C dX1_cut_60 h10 ?_
      refine zq_put (kz := 0) C fk_X1_27 sx85 rfl dX1_cut_61 rfl (fun M11 hM11 => ?_)
      have hJ := hJ M11 hM11
      refine zq_aload_n (i := 1) C dX1_cut_64 rfl rfl ?_
      refine zq_getr C fk_X1_34 (zs0 hc1) rfl dX1_cut_65 ?_
      refine zq_iconst (x := 1) C dX1_cut_68 rfl ik_1 ?_
      refine zq_iald C (zs9 hc1) (by decide) (by decide) dX1_cut_69 ?_
      refine zq_istoreN_n (i := 3) C (fun v => [some (zr 85), some (zr c1), some (zi x2), some (zi v), some (zi x4)]) dX1_cut_70 rfl (Nat.le_of_ble_eq_true rfl) (fun _ => rfl) (fun v3_12 hv3_12 => ?_)
      have hJ := hJ v3_12 hv3_12
      exact hj71 _ _ _ hJ
    refine zq_iload C dX1_cut_21 rfl ?_
    refine zq_iload_n (i := 2) C dX1_cut_23 rfl rfl ?_
    refine zq_icmp_ge (tgt := 87) C dX1_cut_24 rfl (fun h20 => ?_) (fun h20 => ?_)
    · have hJ := hJ.1 h20
      refine zq_aload_n (i := 0) C dX1_cut_87 rfl rfl ?_
      refine zq_getr C fk_X1_9 sx85 rfl dX1_cut_88 ?_
      refine zq_aload_n (i := 0) C dX1_cut_91 rfl rfl ?_
      refine zq_get (kz := 0) C fk_X1_27 sx85 rfl dX1_cut_92 rfl ?_
      refine zq_iload_n (i := 2) C dX1_cut_95 rfl rfl ?_
      obtain ⟨h6, h6', hJ⟩ := hJ
      refine zq_iast C sx86 h6 h6' dX1_cut_96 (fun M7 hM7 => ?_)
      have hJ := hJ M7 hM7
      exact zq_vret C rfl hJ dX1_cut_97
    · have hJ := hJ.2 h20
      refine zq_iload C dX1_cut_27 rfl ?_
      refine zq_if_eq (tgt := 43) C dX1_cut_29 rfl (fun h19 => ?_) (fun h19 => ?_)
      · have hJ := hJ.1 h19
        refine zq_weak [some (zr 85), some (zr c1), some (zi x2), none, some (zi x4)] ⟨Or.inr rfl, Or.inr rfl, Or.inr rfl, Or.inl rfl, Or.inr rfl, trivial⟩ ?_
        exact hj43 _ _ hJ
      · have hJ := hJ.2 h19
        refine zq_aload_n (i := 1) C dX1_cut_32 rfl rfl ?_
        refine zq_getr C fk_X1_31 (zs0 hc1) rfl dX1_cut_33 ?_
        refine zq_iload C dX1_cut_36 rfl ?_
        obtain ⟨h17, h17', hJ⟩ := hJ
        refine zq_iald C (zs8 hc1) h17 h17' dX1_cut_38 ?_
        refine zq_iload_n (i := 3) C dX1_cut_39 rfl rfl ?_
        refine zq_icmp_le (tgt := 71) C dX1_cut_40 rfl (fun h18 => ?_) (fun h18 => ?_)
        · have hJ := hJ.1 h18
          exact hj71 _ _ _ hJ
        · have hJ := hJ.2 h18
          refine zq_weak [some (zr 85), some (zr c1), some (zi x2), none, some (zi x4)] ⟨Or.inr rfl, Or.inr rfl, Or.inr rfl, Or.inl rfl, Or.inr rfl, trivial⟩ ?_
          exact hj43 _ _ hJ
  refine zq_sipush (x := 200) C dX1_cut_0 si_200 ik_200 ?_
  refine zq_aload_n (i := 1) C dX1_cut_3 rfl rfl ?_
  refine zq_callVi C [] (wC_greatestEnd l hc1 _  hJ) ck_X1_15 iv_X0_greatestEnd rfl (zs0 hc1) rfl rfl rfl rfl rfl rfl dX1_cut_4 (fun r1 N2 hN2 => ?_)
  obtain ⟨rfl, hJ⟩ := hN2
  refine zq_min C mk_X1_21 rfl ⟨Nat.le_of_ble_eq_true rfl, Nat.le_of_ble_eq_true rfl⟩ dX1_cut_7 ?_
  refine zq_istoreN_n (i := 2) C (fun v => [some (zr 85), some (zr c1), some (zi v), none, none]) dX1_cut_10 rfl (Nat.le_of_ble_eq_true rfl) (fun _ => rfl) (fun v2_4 hv2_4 => ?_)
  have hJ := hJ v2_4 hv2_4
  refine zq_iconst (x := 0) C dX1_cut_11 rfl ik_0 ?_
  refine zq_istore_n (i := 3) (lv' := [some (zr 85), some (zr c1), some (zi v2_4), some (zi 0), none]) C dX1_cut_12 rfl (Nat.le_of_ble_eq_true rfl) rfl ?_
  refine zq_aload_n (i := 0) C dX1_cut_13 rfl rfl ?_
  refine zq_iconst (x := 0) C dX1_cut_14 rfl ik_0 ?_
  refine zq_put (kz := 0) C fk_X1_27 sx85 rfl dX1_cut_15 rfl (fun M5 hM5 => ?_)
  have hJ := hJ M5 hM5
  refine zq_iconst (x := 0) C dX1_cut_18 rfl ik_0 ?_
  refine zq_istore (lv' := [some (zr 85), some (zr c1), some (zi v2_4), some (zi 0), some (zi 0)]) C dX1_cut_19 (Nat.le_of_ble_eq_true rfl) rfl ?_
  exact hl21 _ _ hJ
set_option maxRecDepth 100000 in
set_option maxHeartbeats 4000000 in
theorem wK_stripOf (l : Launch) (a1 : Int) (M : zM) {Φ : Int → Prop} (hJ : jK_stripOf a1 M Φ) : zMet l yX1_stripOf cX1_stripOf 3 (some .int) 0 0 shX [zr 85, zi a1] M (zI (fun z M' => M = M' ∧ Φ z)) := by
  refine zq_enter [some (zr 85), some (zi a1), none] (by decide) rfl (Nat.le_of_ble_eq_true rfl) rfl (fun X C => ?_)
  unfold jK_stripOf at hJ
  have hl2 : ∀ (s : Int), zwh (fun K s => jK_stripOf_L2 a1 K Φ M (s)) s → zG X M 2 [some (zr 85), some (zi a1), some (zi s)] [] := by
    refine zwh_sound ?_
    intro K2 s hK2 hJ
    obtain ⟨x2, rfl⟩ : ∃ z, z = s := ⟨_, rfl⟩
    have hJ : jK_stripOf_L2 a1 K2 Φ M x2 := hJ
    show zG X M 2 [some (zr 85), some (zi a1), some (zi x2)] []
    unfold jK_stripOf_L2 at hJ
    refine zq_iload_n (i := 2) C dX1_stripOf_2 rfl rfl ?_
    refine zq_aload_n (i := 0) C dX1_stripOf_3 rfl rfl ?_
    refine zq_get (kz := 0) C fk_X1_27 sx85 rfl dX1_stripOf_4 rfl ?_
    refine zq_iconst (x := 1) C dX1_stripOf_7 rfl ik_1 ?_
    obtain ⟨h1, hJ⟩ := hJ
    refine zq_isub C dX1_stripOf_8 h1 ?_
    refine zq_icmp_ge (tgt := 30) C dX1_stripOf_9 rfl (fun h6 => ?_) (fun h6 => ?_)
    · have hJ := hJ.1 h6
      refine zq_iload_n (i := 2) C dX1_stripOf_30 rfl rfl ?_
      exact zq_iret C rfl ⟨_, rfl, rfl, hJ⟩ dX1_stripOf_31
    · have hJ := hJ.2 h6
      refine zq_aload_n (i := 0) C dX1_stripOf_12 rfl rfl ?_
      refine zq_getr C fk_X1_9 sx85 rfl dX1_stripOf_13 ?_
      refine zq_iload_n (i := 2) C dX1_stripOf_16 rfl rfl ?_
      refine zq_iconst (x := 1) C dX1_stripOf_17 rfl ik_1 ?_
      obtain ⟨h2, hJ⟩ := hJ
      refine zq_iadd C dX1_stripOf_18 h2 ?_
      obtain ⟨h3, h3', hJ⟩ := hJ
      refine zq_iald C sx86 h3 h3' dX1_stripOf_19 ?_
      refine zq_iload_n (i := 1) C dX1_stripOf_20 rfl rfl ?_
      refine zq_icmp_gt (tgt := 30) C dX1_stripOf_21 rfl (fun h5 => ?_) (fun h5 => ?_)
      · have hJ := hJ.1 h5
        refine zq_iload_n (i := 2) C dX1_stripOf_30 rfl rfl ?_
        exact zq_iret C rfl ⟨_, rfl, rfl, hJ⟩ dX1_stripOf_31
      · have hJ := hJ.2 h5
        obtain ⟨hv2_4, hJ⟩ := hJ
        refine zq_iinc (y := x2 + 1) (lv' := [some (zr 85), some (zi a1), some (zi (x2 + 1))]) C dX1_stripOf_24 rfl rfl hv2_4 rfl ?_
        obtain ⟨v2_4, ev2_4⟩ : ∃ z, z = x2 + 1 := ⟨_, rfl⟩
        rw [← ev2_4]
        have hJ := hJ v2_4 ev2_4
        refine zq_goto (tgt := 2) C dX1_stripOf_27 rfl ?_
        exact hK2 _ hJ
  refine zq_iconst (x := 0) C dX1_stripOf_0 rfl ik_0 ?_
  refine zq_istore_n (i := 2) (lv' := [some (zr 85), some (zi a1), some (zi 0)]) C dX1_stripOf_1 rfl (Nat.le_of_ble_eq_true rfl) rfl ?_
  exact hl2 _ hJ
