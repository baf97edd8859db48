set_option maxRecDepth 100000 in
set_option maxHeartbeats 4000000 in
theorem wD_readBars (l : Launch) {c1 : Nat} (hc1 : zCh c1)  (M : zM) {Φ : zM → Prop} (hJ : jD_readBars c1 M Φ) : zMet l yX2_readBars cX2_readBars 5 none 1 23 shX [zr 82, zr c1] M (zU Φ) := by
  refine zq_enter [some (zr 82), some (zr c1), none, none, none] (by decide) rfl (Nat.le_of_ble_eq_true rfl) rfl (fun X C => ?_)
  unfold jD_readBars at hJ
  have hl10 : ∀ (s : Int × zM), zwh (fun K s => jD_readBars_L10 c1 K Φ (s.1) (s.2)) s → zG X (s.2) 10 [some (zr 82), some (zr c1), some (zi (s.1)), none, none] [] := by
    refine zwh_sound ?_
    intro K10 s hK10 hJ
    obtain ⟨x2, M⟩ := s
    have hJ : jD_readBars_L10 c1 K10 Φ x2 M := hJ
    show zG X M 10 [some (zr 82), some (zr c1), some (zi x2), none, none] []
    unfold jD_readBars_L10 at hJ
    have hl40 : ∀ (x2 x3 : Int) (s : Int × zM), zwh (fun K s => jD_readBars_L40 c1 K10 K Φ x2 x3 (s.1) (s.2)) s → zG X (s.2) 40 [some (zr 82), some (zr c1), some (zi x2), some (zi x3), some (zi (s.1))] [] := by
      intro x2 x3
      refine zwh_sound ?_
      intro K40 s hK40 hJ
      obtain ⟨x4, M⟩ := s
      have hJ : jD_readBars_L40 c1 K10 K40 Φ x2 x3 x4 M := hJ
      show zG X M 40 [some (zr 82), some (zr c1), some (zi x2), some (zi x3), some (zi x4)] []
      unfold jD_readBars_L40 at hJ
      refine zq_iload C dX2_readBars_40 rfl ?_
      refine zq_iload_n (i := 3) C dX2_readBars_42 rfl rfl ?_
      refine zq_icmp_ge (tgt := 70) C dX2_readBars_43 rfl (fun h15 => ?_) (fun h15 => ?_)
      · have hJ := hJ.1 h15
        obtain ⟨hv2_9, hJ⟩ := hJ
        refine zq_iinc (y := x2 + 1) (lv' := [some (zr 82), some (zr c1), some (zi (x2 + 1)), some (zi x3), some (zi x4)]) C dX2_readBars_70 rfl rfl hv2_9 rfl ?_
        obtain ⟨v2_9, ev2_9⟩ : ∃ z, z = x2 + 1 := ⟨_, rfl⟩
        rw [← ev2_9]
        have hJ := hJ v2_9 ev2_9
        refine zq_goto (tgt := 10) C dX2_readBars_73 rfl ?_
        refine zq_weak [some (zr 82), some (zr c1), some (zi v2_9), none, none] ⟨Or.inr rfl, Or.inr rfl, Or.inr rfl, Or.inl rfl, Or.inl rfl, trivial⟩ ?_
        exact hK10 _ hJ
      · have hJ := hJ.2 h15
        refine zq_aload_n (i := 0) C dX2_readBars_46 rfl rfl ?_
        refine zq_getr C fk_X2_15 sx82 rfl dX2_readBars_47 ?_
        refine zq_iload C dX2_readBars_50 rfl ?_
        refine zq_dup2 C dX2_readBars_52 rfl rfl ?_
        obtain ⟨h10, h10', hJ⟩ := hJ
        refine zq_iald C sx84 h10 h10' dX2_readBars_53 ?_
        refine zq_iconst (x := 1) C dX2_readBars_54 rfl ik_1 ?_
        refine zq_aload_n (i := 1) C dX2_readBars_55 rfl rfl ?_
        refine zq_getr C fk_X2_43 (zs0 hc1) rfl dX2_readBars_56 ?_
        refine zq_iload_n (i := 2) C dX2_readBars_59 rfl rfl ?_
        obtain ⟨h11, h11', hJ⟩ := hJ
        refine zq_iald C (zs2 hc1) h11 h11' dX2_readBars_60 ?_
        refine zq_ishl C dX2_readBars_61 ?_
        refine zq_ior C dX2_readBars_62 ?_
        obtain ⟨h12, h12', hJ⟩ := hJ
        refine zq_iast C sx84 h12 h12' dX2_readBars_63 (fun M13 hM13 => ?_)
        have hJ := hJ M13 hM13
        obtain ⟨hv4_14, hJ⟩ := hJ
        refine zq_iinc (y := x4 + 1) (lv' := [some (zr 82), some (zr c1), some (zi x2), some (zi x3), some (zi (x4 + 1))]) C dX2_readBars_64 rfl rfl hv4_14 rfl ?_
        obtain ⟨v4_14, ev4_14⟩ : ∃ z, z = x4 + 1 := ⟨_, rfl⟩
        rw [← ev4_14]
        have hJ := hJ v4_14 ev4_14
        refine zq_goto (tgt := 40) C dX2_readBars_67 rfl ?_
        exact hK40 _ hJ
    refine zq_iload_n (i := 2) C dX2_readBars_10 rfl rfl ?_
    refine zq_aload_n (i := 1) C dX2_readBars_11 rfl rfl ?_
    refine zq_get (kz := 0) C fk_X2_24 (zs0 hc1) rfl dX2_readBars_12 rfl ?_
    refine zq_icmp_ge (tgt := 76) C dX2_readBars_15 rfl (fun h16 => ?_) (fun h16 => ?_)
    · have hJ := hJ.1 h16
      exact zq_vret C rfl hJ dX2_readBars_76
    · have hJ := hJ.2 h16
      refine zq_sipush (x := 200) C dX2_readBars_18 si_200 ik_200 ?_
      refine zq_aload_n (i := 1) C dX2_readBars_21 rfl rfl ?_
      refine zq_iload_n (i := 2) C dX2_readBars_22 rfl rfl ?_
      refine zq_callVi C [zi x2] (wC_endOf l hc1 _ _  hJ) ck_X2_30 iv_X0_endOf rfl (zs0 hc1) rfl rfl rfl rfl rfl rfl dX2_readBars_23 (fun r2 N3 hN3 => ?_)
      obtain ⟨rfl, hJ⟩ := hN3
      refine zq_min C mk_X2_34 rfl ⟨Nat.le_of_ble_eq_true rfl, Nat.le_of_ble_eq_true rfl⟩ dX2_readBars_26 ?_
      refine zq_istoreN_n (i := 3) C (fun v => [some (zr 82), some (zr c1), some (zi x2), some (zi v), none]) dX2_readBars_29 rfl (Nat.le_of_ble_eq_true rfl) (fun _ => rfl) (fun v3_5 hv3_5 => ?_)
      have hJ := hJ v3_5 hv3_5
      refine zq_aload_n (i := 1) C dX2_readBars_30 rfl rfl ?_
      refine zq_getr C fk_X2_40 (zs0 hc1) rfl dX2_readBars_31 ?_
      refine zq_iload_n (i := 2) C dX2_readBars_34 rfl rfl ?_
      obtain ⟨h6, h6', hJ⟩ := hJ
      refine zq_iald C (zs3 hc1) h6 h6' dX2_readBars_35 ?_
      refine zq_iconst (x := 1) C dX2_readBars_36 rfl ik_1 ?_
      obtain ⟨h7, hJ⟩ := hJ
      refine zq_iadd C dX2_readBars_37 h7 ?_
      refine zq_istoreN C (fun v => [some (zr 82), some (zr c1), some (zi x2), some (zi v3_5), some (zi v)]) dX2_readBars_38 (Nat.le_of_ble_eq_true rfl) (fun _ => rfl) (fun v4_8 hv4_8 => ?_)
      have hJ := hJ v4_8 hv4_8
      exact hl40 _ _ _ hJ
  refine zq_aload_n (i := 0) C dX2_readBars_0 rfl rfl ?_
  refine zq_getr C fk_X2_15 sx82 rfl dX2_readBars_1 ?_
  refine zq_iconst (x := 0) C dX2_readBars_4 rfl ik_0 ?_
  refine zq_callSv C [zr 84, zi 0] (wfill l sx84 (Nat.le_of_ble_eq_true rfl) (fun M1 hM1 => hJ M1 hM1)) ck_X2_18 st_fill rfl rfl rfl rfl rfl rfl dX2_readBars_5 (fun M1 hJ => ?_)
  refine zq_iconst (x := 0) C dX2_readBars_8 rfl ik_0 ?_
  refine zq_istore_n (i := 2) (lv' := [some (zr 82), some (zr c1), some (zi 0), none, none]) C dX2_readBars_9 rfl (Nat.le_of_ble_eq_true rfl) rfl ?_
  exact hl10 _ hJ
set_option maxRecDepth 100000 in
set_option maxHeartbeats 4000000 in
theorem wD_lanesBetween (l : Launch) {c1 : Nat} (hc1 : zCh c1) (a2 : Int) (M : zM) {Φ : Int → Prop} (hJ : jD_lanesBetween c1 a2 M Φ) : zMet l yX2_lanesBetween cX2_lanesBetween 7 (some .int) 1 14 shX [zr 82, zr c1, zi a2] M (zI (fun z M' => M = M' ∧ Φ z)) := by
  refine zq_enter [some (zr 82), some (zr c1), some (zi a2), none, none, none, none] (by decide) rfl (Nat.le_of_ble_eq_true rfl) rfl (fun X C => ?_)
  unfold jD_lanesBetween at hJ
  refine zq_aload_n (i := 1) C dX2_lanesBetween_0 rfl rfl ?_
  refine zq_getr C fk_X2_43 (zs0 hc1) rfl dX2_lanesBetween_1 ?_
  refine zq_aload_n (i := 1) C dX2_lanesBetween_4 rfl rfl ?_
  refine zq_getr C fk_X2_63 (zs0 hc1) rfl dX2_lanesBetween_5 ?_
  refine zq_iload_n (i := 2) C dX2_lanesBetween_8 rfl rfl ?_
  obtain ⟨h1, h1', hJ⟩ := hJ
  refine zq_iald C (zs6 hc1) h1 h1' dX2_lanesBetween_9 ?_
  obtain ⟨h2, h2', hJ⟩ := hJ
  refine zq_iald C (zs2 hc1) h2 h2' dX2_lanesBetween_10 ?_
  refine zq_istoreN_n (i := 3) C (fun v => [some (zr 82), some (zr c1), some (zi a2), some (zi v), none, none, none]) dX2_lanesBetween_11 rfl (Nat.le_of_ble_eq_true rfl) (fun _ => rfl) (fun v3_3 hv3_3 => ?_)
  have hJ := hJ v3_3 hv3_3
  refine zq_aload_n (i := 1) C dX2_lanesBetween_12 rfl rfl ?_
  refine zq_getr C fk_X2_43 (zs0 hc1) rfl dX2_lanesBetween_13 ?_
  refine zq_aload_n (i := 1) C dX2_lanesBetween_16 rfl rfl ?_
  refine zq_getr C fk_X2_66 (zs0 hc1) rfl dX2_lanesBetween_17 ?_
  refine zq_iload_n (i := 2) C dX2_lanesBetween_20 rfl rfl ?_
  obtain ⟨h4, h4', hJ⟩ := hJ
  refine zq_iald C (zs7 hc1) h4 h4' dX2_lanesBetween_21 ?_
  obtain ⟨h5, h5', hJ⟩ := hJ
  refine zq_iald C (zs2 hc1) h5 h5' dX2_lanesBetween_22 ?_
  refine zq_istoreN C (fun v => [some (zr 82), some (zr c1), some (zi a2), some (zi v3_3), some (zi v), none, none]) dX2_lanesBetween_23 (Nat.le_of_ble_eq_true rfl) (fun _ => rfl) (fun v4_6 hv4_6 => ?_)
  have hJ := hJ v4_6 hv4_6
  refine zq_iconst (x := 2) C dX2_lanesBetween_25 rfl ik_2 ?_
  refine zq_iload_n (i := 3) C dX2_lanesBetween_26 rfl rfl ?_
  refine zq_iload C dX2_lanesBetween_27 rfl ?_
  refine zq_min C mk_X2_34 rfl ⟨Nat.le_of_ble_eq_true rfl, Nat.le_of_ble_eq_true rfl⟩ dX2_lanesBetween_29 ?_
  refine zq_ishl C dX2_lanesBetween_32 ?_
  refine zq_iconst (x := 1) C dX2_lanesBetween_33 rfl ik_1 ?_
  obtain ⟨h8, hJ⟩ := hJ
  refine zq_isub C dX2_lanesBetween_34 h8 ?_
  refine zq_istoreN C (fun v => [some (zr 82), some (zr c1), some (zi a2), some (zi v3_3), some (zi v4_6), some (zi v), none]) dX2_lanesBetween_35 (Nat.le_of_ble_eq_true rfl) (fun _ => rfl) (fun v5_9 hv5_9 => ?_)
  have hJ := hJ v5_9 hv5_9
  refine zq_iconst (x := 1) C dX2_lanesBetween_37 rfl ik_1 ?_
  refine zq_iload_n (i := 3) C dX2_lanesBetween_38 rfl rfl ?_
  refine zq_iload C dX2_lanesBetween_39 rfl ?_
  refine zq_max C mk_X2_81 rfl ⟨Nat.le_of_ble_eq_true rfl, Nat.le_of_ble_eq_true rfl⟩ dX2_lanesBetween_41 ?_
  refine zq_ishl C dX2_lanesBetween_44 ?_
  refine zq_iconst (x := 1) C dX2_lanesBetween_45 rfl ik_1 ?_
  obtain ⟨h11, hJ⟩ := hJ
  refine zq_isub C dX2_lanesBetween_46 h11 ?_
  refine zq_istoreN C (fun v => [some (zr 82), some (zr c1), some (zi a2), some (zi v3_3), some (zi v4_6), some (zi v5_9), some (zi v)]) dX2_lanesBetween_47 (Nat.le_of_ble_eq_true rfl) (fun _ => rfl) (fun v6_12 hv6_12 => ?_)
  have hJ := hJ v6_12 hv6_12
  refine zq_iload C dX2_lanesBetween_49 rfl ?_
  refine zq_iload C dX2_lanesBetween_51 rfl ?_
  refine zq_iconst (x := (-1)) C dX2_lanesBetween_53 rfl ik_m1 ?_
  refine zq_ixor C dX2_lanesBetween_54 ?_
  refine zq_iand C dX2_lanesBetween_55 ?_
  exact zq_iret C rfl ⟨_, rfl, rfl, hJ⟩ dX2_lanesBetween_56
set_option maxRecDepth 100000 in
set_option maxHeartbeats 4000000 in
theorem wD_highest (l : Launch) {c1 : Nat} (hc1 : zCh c1) (a2 : Int) (M : zM) {Φ : Int → Prop} (hJ : jD_highest c1 a2 M Φ) : zMet l yX2_highest cX2_highest 6 (some .int) 1 13 shX [zr 82, zr c1, zi a2] M (zI (fun z M' => M = M' ∧ Φ z)) := by
  refine zq_enter [some (zr 82), some (zr c1), some (zi a2), none, none, none] (by decide) rfl (Nat.le_of_ble_eq_true rfl) rfl (fun X C => ?_)
  unfold jD_highest at hJ
  have hl23 : ∀ (x3 : Int) (s : Int × Int), zwh (fun K s => jD_highest_L23 c1 a2 K Φ x3 M (s.1) (s.2)) s → zG X M 23 [some (zr 82), some (zr c1), some (zi a2), some (zi x3), some (zi (s.1)), some (zi (s.2))] [] := by
    intro x3
    refine zwh_sound ?_
    intro K23 s hK23 hJ
    obtain ⟨x4, x5⟩ := s
    have hJ : jD_highest_L23 c1 a2 K23 Φ x3 M x4 x5 := hJ
    show zG X M 23 [some (zr 82), some (zr c1), some (zi a2), some (zi x3), some (zi x4), some (zi x5)] []
    unfold jD_highest_L23 at hJ
    refine zq_iload C dX2_highest_23 rfl ?_
    refine zq_aload_n (i := 1) C dX2_highest_25 rfl rfl ?_
    refine zq_get (kz := 0) C fk_X2_24 (zs0 hc1) rfl dX2_highest_26 rfl ?_
    refine zq_icmp_ge (tgt := 84) C dX2_highest_29 rfl (fun h18 => ?_) (fun h18 => ?_)
    · have hJ := hJ.1 h18
      refine zq_iload C dX2_highest_84 rfl ?_
      exact zq_iret C rfl ⟨_, rfl, rfl, hJ⟩ dX2_highest_86
    · have hJ := hJ.2 h18
      refine zq_aload_n (i := 1) C dX2_highest_32 rfl rfl ?_
      refine zq_getr C fk_X2_43 (zs0 hc1) rfl dX2_highest_33 ?_
      refine zq_iload C dX2_highest_36 rfl ?_
      obtain ⟨h6, h6', hJ⟩ := hJ
      refine zq_iald C (zs2 hc1) h6 h6' dX2_highest_38 ?_
      refine zq_aload_n (i := 1) C dX2_highest_39 rfl rfl ?_
      refine zq_getr C fk_X2_43 (zs0 hc1) rfl dX2_highest_40 ?_
      refine zq_iload_n (i := 3) C dX2_highest_43 rfl rfl ?_
      obtain ⟨h7, h7', hJ⟩ := hJ
      refine zq_iald C (zs2 hc1) h7 h7' dX2_highest_44 ?_
      refine zq_icmp_ne (tgt := 78) C dX2_highest_45 rfl (fun h17 => ?_) (fun h17 => ?_)
      · have hJ := hJ.1 h17
        obtain ⟨hv5_8, hJ⟩ := hJ
        refine zq_iinc (y := x5 + 1) (lv' := [some (zr 82), some (zr c1), some (zi a2), some (zi x3), some (zi x4), some (zi (x5 + 1))]) C dX2_highest_78 rfl rfl hv5_8 rfl ?_
        obtain ⟨v5_8, ev5_8⟩ : ∃ z, z = x5 + 1 := ⟨_, rfl⟩
        rw [← ev5_8]
        have hJ := hJ v5_8 ev5_8
        refine zq_goto (tgt := 23) C dX2_highest_81 rfl ?_
        exact hK23 _ hJ
      · have hJ := hJ.2 h17
        refine zq_aload_n (i := 1) C dX2_highest_48 rfl rfl ?_
        refine zq_getr C fk_X2_40 (zs0 hc1) rfl dX2_highest_49 ?_
        refine zq_iload C dX2_highest_52 rfl ?_
        obtain ⟨h9, h9', hJ⟩ := hJ
        refine zq_iald C (zs3 hc1) h9 h9' dX2_highest_54 ?_
        refine zq_aload_n (i := 1) C dX2_highest_55 rfl rfl ?_
        refine zq_getr C fk_X2_40 (zs0 hc1) rfl dX2_highest_56 ?_
        refine zq_iload_n (i := 3) C dX2_highest_59 rfl rfl ?_
        obtain ⟨h10, h10', hJ⟩ := hJ
        refine zq_iald C (zs3 hc1) h10 h10' dX2_highest_60 ?_
        refine zq_icmp_le (tgt := 78) C dX2_highest_61 rfl (fun h16 => ?_) (fun h16 => ?_)
        · have hJ := hJ.1 h16
          obtain ⟨hv5_11, hJ⟩ := hJ
          refine zq_iinc (y := x5 + 1) (lv' := [some (zr 82), some (zr c1), some (zi a2), some (zi x3), some (zi x4), some (zi (x5 + 1))]) C dX2_highest_78 rfl rfl hv5_11 rfl ?_
          obtain ⟨v5_11, ev5_11⟩ : ∃ z, z = x5 + 1 := ⟨_, rfl⟩
          rw [← ev5_11]
          have hJ := hJ v5_11 ev5_11
          refine zq_goto (tgt := 23) C dX2_highest_81 rfl ?_
          exact hK23 _ hJ
        · have hJ := hJ.2 h16
          refine zq_iload C dX2_highest_64 rfl ?_
          refine zq_aload_n (i := 1) C dX2_highest_66 rfl rfl ?_
          refine zq_getr C fk_X2_40 (zs0 hc1) rfl dX2_highest_67 ?_
          refine zq_iload C dX2_highest_70 rfl ?_
          obtain ⟨h12, h12', hJ⟩ := hJ
          refine zq_iald C (zs3 hc1) h12 h12' dX2_highest_72 ?_
          refine zq_min C mk_X2_34 rfl ⟨Nat.le_of_ble_eq_true rfl, Nat.le_of_ble_eq_true rfl⟩ dX2_highest_73 ?_
          refine zq_istoreN C (fun v => [some (zr 82), some (zr c1), some (zi a2), some (zi x3), some (zi v), some (zi x5)]) dX2_highest_76 (Nat.le_of_ble_eq_true rfl) (fun _ => rfl) (fun v4_14 hv4_14 => ?_)
          have hJ := hJ v4_14 hv4_14
          obtain ⟨hv5_15, hJ⟩ := hJ
          refine zq_iinc (y := x5 + 1) (lv' := [some (zr 82), some (zr c1), some (zi a2), some (zi x3), some (zi v4_14), some (zi (x5 + 1))]) C dX2_highest_78 rfl rfl hv5_15 rfl ?_
          obtain ⟨v5_15, ev5_15⟩ : ∃ z, z = x5 + 1 := ⟨_, rfl⟩
          rw [← ev5_15]
          have hJ := hJ v5_15 ev5_15
          refine zq_goto (tgt := 23) C dX2_highest_81 rfl ?_
          exact hK23 _ hJ
  refine zq_aload_n (i := 1) C dX2_highest_0 rfl rfl ?_
  refine zq_getr C fk_X2_63 (zs0 hc1) rfl dX2_highest_1 ?_
  refine zq_iload_n (i := 2) C dX2_highest_4 rfl rfl ?_
  obtain ⟨h1, h1', hJ⟩ := hJ
  refine zq_iald C (zs6 hc1) h1 h1' dX2_highest_5 ?_
  refine zq_istoreN_n (i := 3) C (fun v => [some (zr 82), some (zr c1), some (zi a2), some (zi v), none, none]) dX2_highest_6 rfl (Nat.le_of_ble_eq_true rfl) (fun _ => rfl) (fun v3_2 hv3_2 => ?_)
  have hJ := hJ v3_2 hv3_2
  refine zq_aload_n (i := 1) C dX2_highest_7 rfl rfl ?_
  refine zq_getr C fk_X2_40 (zs0 hc1) rfl dX2_highest_8 ?_
  refine zq_aload_n (i := 1) C dX2_highest_11 rfl rfl ?_
  refine zq_getr C fk_X2_66 (zs0 hc1) rfl dX2_highest_12 ?_
  refine zq_iload_n (i := 2) C dX2_highest_15 rfl rfl ?_
  obtain ⟨h3, h3', hJ⟩ := hJ
  refine zq_iald C (zs7 hc1) h3 h3' dX2_highest_16 ?_
  obtain ⟨h4, h4', hJ⟩ := hJ
  refine zq_iald C (zs3 hc1) h4 h4' dX2_highest_17 ?_
  refine zq_istoreN C (fun v => [some (zr 82), some (zr c1), some (zi a2), some (zi v3_2), some (zi v), none]) dX2_highest_18 (Nat.le_of_ble_eq_true rfl) (fun _ => rfl) (fun v4_5 hv4_5 => ?_)
  have hJ := hJ v4_5 hv4_5
  refine zq_iconst (x := 0) C dX2_highest_20 rfl ik_0 ?_
  refine zq_istore (lv' := [some (zr 82), some (zr c1), some (zi a2), some (zi v3_2), some (zi v4_5), some (zi 0)]) C dX2_highest_21 (Nat.le_of_ble_eq_true rfl) rfl ?_
  exact hl23 _ _ hJ
set_option maxRecDepth 100000 in
set_option maxHeartbeats 4000000 in
theorem wD_lowest (l : Launch) {c1 : Nat} (hc1 : zCh c1) (a2 : Int) (M : zM) {Φ : Int → Prop} (hJ : jD_lowest c1 a2 M Φ) : zMet l yX2_lowest cX2_lowest 6 (some .int) 1 21 shX [zr 82, zr c1, zi a2] M (zI (fun z M' => M = M' ∧ Φ z)) := by
  refine zq_enter [some (zr 82), some (zr c1), some (zi a2), none, none, none] (by decide) rfl (Nat.le_of_ble_eq_true rfl) rfl (fun X C => ?_)
  unfold jD_lowest at hJ
  have hl22 : ∀ (x3 : Int) (s : Int × Int), zwh (fun K s => jD_lowest_L22 c1 a2 K Φ x3 M (s.1) (s.2)) s → zG X M 22 [some (zr 82), some (zr c1), some (zi a2), some (zi x3), some (zi (s.1)), some (zi (s.2))] [] := by
    intro x3
    refine zwh_sound ?_
    intro K22 s hK22 hJ
    obtain ⟨x4, x5⟩ := s
    have hJ : jD_lowest_L22 c1 a2 K22 Φ x3 M x4 x5 := hJ
    show zG X M 22 [some (zr 82), some (zr c1), some (zi a2), some (zi x3), some (zi x4), some (zi x5)] []
    unfold jD_lowest_L22 at hJ
    refine zq_iload C dX2_lowest_22 rfl ?_
    refine zq_aload_n (i := 1) C dX2_lowest_24 rfl rfl ?_
    refine zq_get (kz := 0) C fk_X2_24 (zs0 hc1) rfl dX2_lowest_25 rfl ?_
    refine zq_icmp_ge (tgt := 82) C dX2_lowest_28 rfl (fun h19 => ?_) (fun h19 => ?_)
    · have hJ := hJ.1 h19
      refine zq_iload C dX2_lowest_82 rfl ?_
      exact zq_iret C rfl ⟨_, rfl, rfl, hJ⟩ dX2_lowest_84
    · have hJ := hJ.2 h19
      refine zq_aload_n (i := 1) C dX2_lowest_31 rfl rfl ?_
      refine zq_getr C fk_X2_43 (zs0 hc1) rfl dX2_lowest_32 ?_
      refine zq_iload C dX2_lowest_35 rfl ?_
      obtain ⟨h6, h6', hJ⟩ := hJ
      refine zq_iald C (zs2 hc1) h6 h6' dX2_lowest_37 ?_
      refine zq_aload_n (i := 1) C dX2_lowest_38 rfl rfl ?_
      refine zq_getr C fk_X2_43 (zs0 hc1) rfl dX2_lowest_39 ?_
      refine zq_iload_n (i := 3) C dX2_lowest_42 rfl rfl ?_
      obtain ⟨h7, h7', hJ⟩ := hJ
      refine zq_iald C (zs2 hc1) h7 h7' dX2_lowest_43 ?_
      refine zq_icmp_ne (tgt := 76) C dX2_lowest_44 rfl (fun h18 => ?_) (fun h18 => ?_)
      · have hJ := hJ.1 h18
        obtain ⟨hv5_8, hJ⟩ := hJ
        refine zq_iinc (y := x5 + 1) (lv' := [some (zr 82), some (zr c1), some (zi a2), some (zi x3), some (zi x4), some (zi (x5 + 1))]) C dX2_lowest_76 rfl rfl hv5_8 rfl ?_
        obtain ⟨v5_8, ev5_8⟩ : ∃ z, z = x5 + 1 := ⟨_, rfl⟩
        rw [← ev5_8]
        have hJ := hJ v5_8 ev5_8
        refine zq_goto (tgt := 22) C dX2_lowest_79 rfl ?_
        exact hK22 _ hJ
      · have hJ := hJ.2 h18
        refine zq_aload_n (i := 1) C dX2_lowest_47 rfl rfl ?_
        refine zq_getr C fk_X2_40 (zs0 hc1) rfl dX2_lowest_48 ?_
        refine zq_iload C dX2_lowest_51 rfl ?_
        obtain ⟨h9, h9', hJ⟩ := hJ
        refine zq_iald C (zs3 hc1) h9 h9' dX2_lowest_53 ?_
        refine zq_aload_n (i := 1) C dX2_lowest_54 rfl rfl ?_
        refine zq_getr C fk_X2_40 (zs0 hc1) rfl dX2_lowest_55 ?_
        refine zq_iload_n (i := 3) C dX2_lowest_58 rfl rfl ?_
        obtain ⟨h10, h10', hJ⟩ := hJ
        refine zq_iald C (zs3 hc1) h10 h10' dX2_lowest_59 ?_
        refine zq_icmp_ge (tgt := 76) C dX2_lowest_60 rfl (fun h17 => ?_) (fun h17 => ?_)
        · have hJ := hJ.1 h17
          obtain ⟨hv5_11, hJ⟩ := hJ
          refine zq_iinc (y := x5 + 1) (lv' := [some (zr 82), some (zr c1), some (zi a2), some (zi x3), some (zi x4), some (zi (x5 + 1))]) C dX2_lowest_76 rfl rfl hv5_11 rfl ?_
          obtain ⟨v5_11, ev5_11⟩ : ∃ z, z = x5 + 1 := ⟨_, rfl⟩
          rw [← ev5_11]
          have hJ := hJ v5_11 ev5_11
          refine zq_goto (tgt := 22) C dX2_lowest_79 rfl ?_
          exact hK22 _ hJ
        · have hJ := hJ.2 h17
          refine zq_iload C dX2_lowest_63 rfl ?_
          refine zq_aload_n (i := 1) C dX2_lowest_65 rfl rfl ?_
          refine zq_iload C dX2_lowest_66 rfl ?_
          refine zq_callVi C [zi x5] (wC_endOf l hc1 _ _  hJ) ck_X2_30 iv_X0_endOf rfl (zs0 hc1) rfl rfl rfl rfl rfl rfl dX2_lowest_68 (fun r12 N13 hN13 => ?_)
          obtain ⟨rfl, hJ⟩ := hN13
          refine zq_max C mk_X2_81 rfl ⟨Nat.le_of_ble_eq_true rfl, Nat.le_of_ble_eq_true rfl⟩ dX2_lowest_71 ?_
          refine zq_istoreN C (fun v => [some (zr 82), some (zr c1), some (zi a2), some (zi x3), some (zi v), some (zi x5)]) dX2_lowest_74 (Nat.le_of_ble_eq_true rfl) (fun _ => rfl) (fun v4_15 hv4_15 => ?_)
          have hJ := hJ v4_15 hv4_15
          obtain ⟨hv5_16, hJ⟩ := hJ
          refine zq_iinc (y := x5 + 1) (lv' := [some (zr 82), some (zr c1), some (zi a2), some (zi x3), some (zi v4_15), some (zi (x5 + 1))]) C dX2_lowest_76 rfl rfl hv5_16 rfl ?_
          obtain ⟨v5_16, ev5_16⟩ : ∃ z, z = x5 + 1 := ⟨_, rfl⟩
          rw [← ev5_16]
          have hJ := hJ v5_16 ev5_16
          refine zq_goto (tgt := 22) C dX2_lowest_79 rfl ?_
          exact hK22 _ hJ
  refine zq_aload_n (i := 1) C dX2_lowest_0 rfl rfl ?_
  refine zq_getr C fk_X2_66 (zs0 hc1) rfl dX2_lowest_1 ?_
  refine zq_iload_n (i := 2) C dX2_lowest_4 rfl rfl ?_
  obtain ⟨h1, h1', hJ⟩ := hJ
  refine zq_iald C (zs7 hc1) h1 h1' dX2_lowest_5 ?_
  refine zq_istoreN_n (i := 3) C (fun v => [some (zr 82), some (zr c1), some (zi a2), some (zi v), none, none]) dX2_lowest_6 rfl (Nat.le_of_ble_eq_true rfl) (fun _ => rfl) (fun v3_2 hv3_2 => ?_)
  have hJ := hJ v3_2 hv3_2
  refine zq_aload_n (i := 1) C dX2_lowest_7 rfl rfl ?_
  refine zq_aload_n (i := 1) C dX2_lowest_8 rfl rfl ?_
  refine zq_getr C fk_X2_63 (zs0 hc1) rfl dX2_lowest_9 ?_
  refine zq_iload_n (i := 2) C dX2_lowest_12 rfl rfl ?_
  obtain ⟨h3, h3', hJ⟩ := hJ
  refine zq_iald C (zs6 hc1) h3 h3' dX2_lowest_13 ?_
  refine zq_callVi C [zi (M (c1 + 6) a2)] (wC_endOf l hc1 _ _  hJ) ck_X2_30 iv_X0_endOf rfl (zs0 hc1) rfl rfl rfl rfl rfl rfl dX2_lowest_14 (fun r4 N5 hN5 => ?_)
  obtain ⟨rfl, hJ⟩ := hN5
  refine zq_istore (lv' := [some (zr 82), some (zr c1), some (zi a2), some (zi v3_2), some (zi r4), none]) C dX2_lowest_17 (Nat.le_of_ble_eq_true rfl) rfl ?_
  refine zq_iconst (x := 0) C dX2_lowest_19 rfl ik_0 ?_
  refine zq_istore (lv' := [some (zr 82), some (zr c1), some (zi a2), some (zi v3_2), some (zi r4), some (zi 0)]) C dX2_lowest_20 (Nat.le_of_ble_eq_true rfl) rfl ?_
  exact hl22 _ _ hJ
set_option maxRecDepth 100000 in
set_option maxHeartbeats 4000000 in
theorem wD_choose (l : Launch) {c1 : Nat} (hc1 : zCh c1) (a2 : Int) (M : zM) {Φ : Int → Prop} (hJ : jD_choose c1 a2 M Φ) : zMet l yX2_choose cX2_choose 9 (some .int) 2 46 shX [zr 82, zr c1, zi a2] M (zI (fun z M' => M = M' ∧ Φ z)) := by
  refine zq_enter [some (zr 82), some (zr c1), some (zi a2), none, none, none, none, none, none] (by decide) rfl (Nat.le_of_ble_eq_true rfl) rfl (fun X C => ?_)
  unfold jD_choose at hJ
  have hl59 : ∀ (x3 x4 x5 x6 : Int) (s : Int × Int), zwh (fun K s => jD_choose_L59 c1 a2 K Φ x3 x4 x5 x6 M (s.1) (s.2)) s → zG X M 59 [some (zr 82), some (zr c1), some (zi a2), some (zi x3), some (zi x4), some (zi x5), some (zi x6), some (zi (s.1)), some (zi (s.2))] [] := by
    intro x3 x4 x5 x6
    refine zwh_sound ?_
    intro K59 s hK59 hJ
    obtain ⟨x7, x8⟩ := s
    have hJ : jD_choose_L59 c1 a2 K59 Φ x3 x4 x5 x6 M x7 x8 := hJ
    show zG X M 59 [some (zr 82), some (zr c1), some (zi a2), some (zi x3), some (zi x4), some (zi x5), some (zi x6), some (zi x7), some (zi x8)] []
    unfold jD_choose_L59 at hJ
    refine zq_iload C dX2_choose_59 rfl ?_
    refine zq_iload C dX2_choose_61 rfl ?_
    refine zq_icmp_gt (tgt := 134) C dX2_choose_63 rfl (fun h32 => ?_) (fun h32 => ?_)
    · have hJ := hJ.1 h32
      refine zq_iload C dX2_choose_134 rfl ?_
      exact zq_iret C rfl ⟨_, rfl, rfl, hJ⟩ dX2_choose_136
    · have hJ := hJ.2 h32
      refine zq_aload_n (i := 0) C dX2_choose_66 rfl rfl ?_
      refine zq_getr C fk_X2_15 sx82 rfl dX2_choose_67 ?_
      refine zq_iload C dX2_choose_70 rfl ?_
      obtain ⟨h15, h15', hJ⟩ := hJ
      refine zq_iald C sx84 h15 h15' dX2_choose_72 ?_
      refine zq_iload C dX2_choose_73 rfl ?_
      refine zq_iand C dX2_choose_75 ?_
      refine zq_if_eq (tgt := 82) C dX2_choose_76 rfl (fun h31 => ?_) (fun h31 => ?_)
      · have hJ := hJ.1 h31
        refine zq_iload_n (i := 3) C dX2_choose_82 rfl rfl ?_
        refine zq_if_ne (tgt := 89) C dX2_choose_83 rfl (fun h29 => ?_) (fun h29 => ?_)
        · have hJ := hJ.1 h29
          refine zq_iload C dX2_choose_89 rfl ?_
          refine zq_bipush (x := (-5)) C dX2_choose_91 bi_m5 ik_m5 ?_
          refine zq_icmp_eq (tgt := 124) C dX2_choose_93 rfl (fun h28 => ?_) (fun h28 => ?_)
          · have hJ := hJ.1 h28
            refine zq_iload C dX2_choose_124 rfl ?_
            refine zq_istore (lv' := [some (zr 82), some (zr c1), some (zi a2), some (zi x3), some (zi x4), some (zi x5), some (zi x6), some (zi x8), some (zi x8)]) C dX2_choose_126 (Nat.le_of_ble_eq_true rfl) rfl ?_
            obtain ⟨hv8_16, hJ⟩ := hJ
            refine zq_iinc (y := x8 + 1) (lv' := [some (zr 82), some (zr c1), some (zi a2), some (zi x3), some (zi x4), some (zi x5), some (zi x6), some (zi x8), some (zi (x8 + 1))]) C dX2_choose_128 rfl rfl hv8_16 rfl ?_
            obtain ⟨v8_16, ev8_16⟩ : ∃ z, z = x8 + 1 := ⟨_, rfl⟩
            rw [← ev8_16]
            have hJ := hJ v8_16 ev8_16
            refine zq_goto (tgt := 59) C dX2_choose_131 rfl ?_
            exact hK59 _ hJ
          · have hJ := hJ.2 h28
            refine zq_iload_n (i := 3) C dX2_choose_96 rfl rfl ?_
            refine zq_iconst (x := 1) C dX2_choose_97 rfl ik_1 ?_
            refine zq_icmp_eq (tgt := 124) C dX2_choose_98 rfl (fun h27 => ?_) (fun h27 => ?_)
            · have hJ := hJ.1 h27
              refine zq_iload C dX2_choose_124 rfl ?_
              refine zq_istore (lv' := [some (zr 82), some (zr c1), some (zi a2), some (zi x3), some (zi x4), some (zi x5), some (zi x6), some (zi x8), some (zi x8)]) C dX2_choose_126 (Nat.le_of_ble_eq_true rfl) rfl ?_
              obtain ⟨hv8_17, hJ⟩ := hJ
              refine zq_iinc (y := x8 + 1) (lv' := [some (zr 82), some (zr c1), some (zi a2), some (zi x3), some (zi x4), some (zi x5), some (zi x6), some (zi x8), some (zi (x8 + 1))]) C dX2_choose_128 rfl rfl hv8_17 rfl ?_
              obtain ⟨v8_17, ev8_17⟩ : ∃ z, z = x8 + 1 := ⟨_, rfl⟩
              rw [← ev8_17]
              have hJ := hJ v8_17 ev8_17
              refine zq_goto (tgt := 59) C dX2_choose_131 rfl ?_
              exact hK59 _ hJ
            · have hJ := hJ.2 h27
              refine zq_iconst (x := 2) C dX2_choose_101 rfl ik_2 ?_
              refine zq_iload C dX2_choose_102 rfl ?_
              obtain ⟨h18, hJ⟩ := hJ
              refine zq_imul C dX2_choose_104 h18 ?_
              refine zq_iload C dX2_choose_105 rfl ?_
              obtain ⟨h19, hJ⟩ := hJ
              refine zq_isub C dX2_choose_107 h19 ?_
              obtain ⟨h20, hJ⟩ := hJ
              refine zq_abs C mk_X2_78 rfl ⟨Nat.le_of_ble_eq_true rfl, Nat.le_of_ble_eq_true rfl⟩ h20 dX2_choose_108 ?_
              refine zq_iconst (x := 2) C dX2_choose_111 rfl ik_2 ?_
              refine zq_iload C dX2_choose_112 rfl ?_
              obtain ⟨h21, hJ⟩ := hJ
              refine zq_imul C dX2_choose_114 h21 ?_
              refine zq_iload C dX2_choose_115 rfl ?_
              obtain ⟨h22, hJ⟩ := hJ
              refine zq_isub C dX2_choose_117 h22 ?_
              obtain ⟨h23, hJ⟩ := hJ
              refine zq_abs C mk_X2_78 rfl ⟨Nat.le_of_ble_eq_true rfl, Nat.le_of_ble_eq_true rfl⟩ h23 dX2_choose_118 ?_
              refine zq_icmp_ge (tgt := 128) C dX2_choose_121 rfl (fun h26 => ?_) (fun h26 => ?_)
              · have hJ := hJ.1 h26
                obtain ⟨hv8_24, hJ⟩ := hJ
                refine zq_iinc (y := x8 + 1) (lv' := [some (zr 82), some (zr c1), some (zi a2), some (zi x3), some (zi x4), some (zi x5), some (zi x6), some (zi x7), some (zi (x8 + 1))]) C dX2_choose_128 rfl rfl hv8_24 rfl ?_
                obtain ⟨v8_24, ev8_24⟩ : ∃ z, z = x8 + 1 := ⟨_, rfl⟩
                rw [← ev8_24]
                have hJ := hJ v8_24 ev8_24
                refine zq_goto (tgt := 59) C dX2_choose_131 rfl ?_
                exact hK59 _ hJ
              · have hJ := hJ.2 h26
                refine zq_iload C dX2_choose_124 rfl ?_
                refine zq_istore (lv' := [some (zr 82), some (zr c1), some (zi a2), some (zi x3), some (zi x4), some (zi x5), some (zi x6), some (zi x8), some (zi x8)]) C dX2_choose_126 (Nat.le_of_ble_eq_true rfl) rfl ?_
                obtain ⟨hv8_25, hJ⟩ := hJ
                refine zq_iinc (y := x8 + 1) (lv' := [some (zr 82), some (zr c1), some (zi a2), some (zi x3), some (zi x4), some (zi x5), some (zi x6), some (zi x8), some (zi (x8 + 1))]) C dX2_choose_128 rfl rfl hv8_25 rfl ?_
                obtain ⟨v8_25, ev8_25⟩ : ∃ z, z = x8 + 1 := ⟨_, rfl⟩
                rw [← ev8_25]
                have hJ := hJ v8_25 ev8_25
                refine zq_goto (tgt := 59) C dX2_choose_131 rfl ?_
                exact hK59 _ hJ
        · have hJ := hJ.2 h29
          refine zq_iload C dX2_choose_86 rfl ?_
          exact zq_iret C rfl ⟨_, rfl, rfl, hJ⟩ dX2_choose_88
      · have hJ := hJ.2 h31
        refine zq_goto (tgt := 128) C dX2_choose_79 rfl ?_
        obtain ⟨hv8_30, hJ⟩ := hJ
        refine zq_iinc (y := x8 + 1) (lv' := [some (zr 82), some (zr c1), some (zi a2), some (zi x3), some (zi x4), some (zi x5), some (zi x6), some (zi x7), some (zi (x8 + 1))]) C dX2_choose_128 rfl rfl hv8_30 rfl ?_
        obtain ⟨v8_30, ev8_30⟩ : ∃ z, z = x8 + 1 := ⟨_, rfl⟩
        rw [← ev8_30]
        have hJ := hJ v8_30 ev8_30
        refine zq_goto (tgt := 59) C dX2_choose_131 rfl ?_
        exact hK59 _ hJ
  refine zq_aload_n (i := 1) C dX2_choose_0 rfl rfl ?_
  refine zq_getr C fk_X2_60 (zs0 hc1) rfl dX2_choose_1 ?_
  refine zq_iconst (x := 0) C dX2_choose_4 rfl ik_0 ?_
  refine zq_iald C (zs9 hc1) (by decide) (by decide) dX2_choose_5 ?_
  refine zq_istoreN_n (i := 3) C (fun v => [some (zr 82), some (zr c1), some (zi a2), some (zi v), none, none, none, none, none]) dX2_choose_6 rfl (Nat.le_of_ble_eq_true rfl) (fun _ => rfl) (fun v3_1 hv3_1 => ?_)
  have hJ := hJ v3_1 hv3_1
  refine zq_aload_n (i := 1) C dX2_choose_7 rfl rfl ?_
  refine zq_aload_n (i := 1) C dX2_choose_8 rfl rfl ?_
  refine zq_getr C fk_X2_63 (zs0 hc1) rfl dX2_choose_9 ?_
  refine zq_iload_n (i := 2) C dX2_choose_12 rfl rfl ?_
  obtain ⟨h2, h2', hJ⟩ := hJ
  refine zq_iald C (zs6 hc1) h2 h2' dX2_choose_13 ?_
  refine zq_callVi C [zi (M (c1 + 6) a2)] (wC_endOf l hc1 _ _  hJ) ck_X2_30 iv_X0_endOf rfl (zs0 hc1) rfl rfl rfl rfl rfl rfl dX2_choose_14 (fun r3 N4 hN4 => ?_)
  obtain ⟨rfl, hJ⟩ := hN4
  refine zq_aload_n (i := 1) C dX2_choose_17 rfl rfl ?_
  refine zq_getr C fk_X2_40 (zs0 hc1) rfl dX2_choose_18 ?_
  refine zq_aload_n (i := 1) C dX2_choose_21 rfl rfl ?_
  refine zq_getr C fk_X2_66 (zs0 hc1) rfl dX2_choose_22 ?_
  refine zq_iload_n (i := 2) C dX2_choose_25 rfl rfl ?_
  obtain ⟨h5, h5', hJ⟩ := hJ
  refine zq_iald C (zs7 hc1) h5 h5' dX2_choose_26 ?_
  obtain ⟨h6, h6', hJ⟩ := hJ
  refine zq_iald C (zs3 hc1) h6 h6' dX2_choose_27 ?_
  obtain ⟨h7, hJ⟩ := hJ
  refine zq_iadd C dX2_choose_28 h7 ?_
  refine zq_istoreN C (fun v => [some (zr 82), some (zr c1), some (zi a2), some (zi v3_1), some (zi v), none, none, none, none]) dX2_choose_29 (Nat.le_of_ble_eq_true rfl) (fun _ => rfl) (fun v4_8 hv4_8 => ?_)
  have hJ := hJ v4_8 hv4_8
  refine zq_aload_n (i := 0) C dX2_choose_31 rfl rfl ?_
  refine zq_aload_n (i := 1) C dX2_choose_32 rfl rfl ?_
  refine zq_iload_n (i := 2) C dX2_choose_33 rfl rfl ?_
  refine zq_callVi C [zr c1, zi a2] (wD_lanesBetween l hc1 _ _  hJ) ck_X2_69 iv_X2_lanesBetween rfl sx82 rfl rfl rfl rfl rfl rfl dX2_choose_34 (fun r9 N10 hN10 => ?_)
  obtain ⟨rfl, hJ⟩ := hN10
  refine zq_istore (lv' := [some (zr 82), some (zr c1), some (zi a2), some (zi v3_1), some (zi v4_8), some (zi r9), none, none, none]) C dX2_choose_37 (Nat.le_of_ble_eq_true rfl) rfl ?_
  refine zq_aload_n (i := 0) C dX2_choose_39 rfl rfl ?_
  refine zq_aload_n (i := 1) C dX2_choose_40 rfl rfl ?_
  refine zq_iload_n (i := 2) C dX2_choose_41 rfl rfl ?_
  refine zq_callVi C [zr c1, zi a2] (wD_highest l hc1 _ _  hJ) ck_X2_72 iv_X2_highest rfl sx82 rfl rfl rfl rfl rfl rfl dX2_choose_42 (fun r11 N12 hN12 => ?_)
  obtain ⟨rfl, hJ⟩ := hN12
  refine zq_istore (lv' := [some (zr 82), some (zr c1), some (zi a2), some (zi v3_1), some (zi v4_8), some (zi r9), some (zi r11), none, none]) C dX2_choose_45 (Nat.le_of_ble_eq_true rfl) rfl ?_
  refine zq_bipush (x := (-5)) C dX2_choose_47 bi_m5 ik_m5 ?_
  refine zq_istore (lv' := [some (zr 82), some (zr c1), some (zi a2), some (zi v3_1), some (zi v4_8), some (zi r9), some (zi r11), some (zi (-5)), none]) C dX2_choose_49 (Nat.le_of_ble_eq_true rfl) rfl ?_
  refine zq_aload_n (i := 0) C dX2_choose_51 rfl rfl ?_
  refine zq_aload_n (i := 1) C dX2_choose_52 rfl rfl ?_
  refine zq_iload_n (i := 2) C dX2_choose_53 rfl rfl ?_
  refine zq_callVi C [zr c1, zi a2] (wD_lowest l hc1 _ _  hJ) ck_X2_75 iv_X2_lowest rfl sx82 rfl rfl rfl rfl rfl rfl dX2_choose_54 (fun r13 N14 hN14 => ?_)
  obtain ⟨rfl, hJ⟩ := hN14
  refine zq_istore (lv' := [some (zr 82), some (zr c1), some (zi a2), some (zi v3_1), some (zi v4_8), some (zi r9), some (zi r11), some (zi (-5)), some (zi r13)]) C dX2_choose_57 (Nat.le_of_ble_eq_true rfl) rfl ?_
  exact hl59 _ _ _ _ _ hJ
set_option maxRecDepth 100000 in
set_option maxHeartbeats 4000000 in
theorem wD_draw (l : Launch) {c1 : Nat} (hc1 : zCh c1)  (M : zM) {Φ : zM → Prop} (hJ : jD_draw c1 M Φ) : zMet l yX2_draw cX2_draw 3 none 3 74 shX [zr 82, zr c1] M (zU Φ) := by
  refine zq_enter [some (zr 82), some (zr c1), none] (by decide) rfl (Nat.le_of_ble_eq_true rfl) rfl (fun X C => ?_)
  unfold jD_draw at hJ
  have hl12 : ∀ (s : Int × zM), zwh (fun K s => jD_draw_L12 c1 K Φ (s.1) (s.2)) s → zG X (s.2) 12 [some (zr 82), some (zr c1), some (zi (s.1))] [] := by
    refine zwh_sound ?_
    intro K12 s hK12 hJ
    obtain ⟨x2, M⟩ := s
    have hJ : jD_draw_L12 c1 K12 Φ x2 M := hJ
    show zG X M 12 [some (zr 82), some (zr c1), some (zi x2)] []
    unfold jD_draw_L12 at hJ
    have hj53 : ∀ (x2 s1 s2 : Int) (M : zM), jD_draw_J53 c1 K12 Φ x2 s1 s2 M → zG X M 53 [some (zr 82), some (zr c1), some (zi x2)] [zi s2, zi s1, zr 82] := by
      intro x2 s1 s2 M hJ
      unfold jD_draw_J53 at hJ
      obtain ⟨h8, hJ⟩ := hJ
      refine zq_iadd C dX2_draw_53 h8 ?_
      refine zq_put (kz := 1) C fk_X2_50 sx82 rfl dX2_draw_54 rfl (fun M9 hM9 => ?_)
      have hJ := hJ M9 hM9
      obtain ⟨hv2_10, hJ⟩ := hJ
      refine zq_iinc (y := x2 + 1) (lv' := [some (zr 82), some (zr c1), some (zi (x2 + 1))]) C dX2_draw_57 rfl rfl hv2_10 rfl ?_
      obtain ⟨v2_10, ev2_10⟩ : ∃ z, z = x2 + 1 := ⟨_, rfl⟩
      rw [← ev2_10]
      have hJ := hJ v2_10 ev2_10
      refine zq_goto (tgt := 12) C dX2_draw_60 rfl ?_
      exact hK12 _ hJ
    refine zq_iload_n (i := 2) C dX2_draw_12 rfl rfl ?_
    refine zq_aload_n (i := 1) C dX2_draw_13 rfl rfl ?_
    refine zq_get (kz := 6) C fk_X2_53 (zs0 hc1) rfl dX2_draw_14 rfl ?_
    refine zq_icmp_ge (tgt := 63) C dX2_draw_17 rfl (fun h12 => ?_) (fun h12 => ?_)
    · have hJ := hJ.1 h12
      exact zq_vret C rfl hJ dX2_draw_63
    · have hJ := hJ.2 h12
      refine zq_aload_n (i := 0) C dX2_draw_20 rfl rfl ?_
      refine zq_getr C fk_X2_9 sx82 rfl dX2_draw_21 ?_
      refine zq_iload_n (i := 2) C dX2_draw_24 rfl rfl ?_
      refine zq_aload_n (i := 0) C dX2_draw_25 rfl rfl ?_
      refine zq_aload_n (i := 1) C dX2_draw_26 rfl rfl ?_
      refine zq_iload_n (i := 2) C dX2_draw_27 rfl rfl ?_
      refine zq_callVi C [zr c1, zi x2] (wD_choose l hc1 _ _  hJ) ck_X2_56 iv_X2_choose rfl sx82 rfl rfl rfl rfl rfl rfl dX2_draw_28 (fun r3 N4 hN4 => ?_)
      obtain ⟨rfl, hJ⟩ := hN4
      obtain ⟨h5, h5', hJ⟩ := hJ
      refine zq_iast C sx83 h5 h5' dX2_draw_31 (fun M6 hM6 => ?_)
      have hJ := hJ M6 hM6
      refine zq_aload_n (i := 0) C dX2_draw_32 rfl rfl ?_
      refine zq_dup C dX2_draw_33 rfl ?_
      refine zq_get (kz := 1) C fk_X2_50 sx82 rfl dX2_draw_34 rfl ?_
      refine zq_aload_n (i := 0) C dX2_draw_37 rfl rfl ?_
      refine zq_getr C fk_X2_9 sx82 rfl dX2_draw_38 ?_
      refine zq_iload_n (i := 2) C dX2_draw_41 rfl rfl ?_
      obtain ⟨h7, h7', hJ⟩ := hJ
      refine zq_iald C sx83 h7 h7' dX2_draw_42 ?_
      refine zq_bipush (x := (-5)) C dX2_draw_43 bi_m5 ik_m5 ?_
      refine zq_icmp_ne (tgt := 52) C dX2_draw_45 rfl (fun h11 => ?_) (fun h11 => ?_)
      · have hJ := hJ.1 h11
        refine zq_iconst (x := 0) C dX2_draw_52 rfl ik_0 ?_
        exact hj53 _ _ _ _ hJ
      · have hJ := hJ.2 h11
        refine zq_iconst (x := 1) C dX2_draw_48 rfl ik_1 ?_
        refine zq_goto (tgt := 53) C dX2_draw_49 rfl ?_
        exact hj53 _ _ _ _ hJ
  refine zq_aload_n (i := 0) C dX2_draw_0 rfl rfl ?_
  refine zq_aload_n (i := 1) C dX2_draw_1 rfl rfl ?_
  refine zq_callVv C [zr c1] (wD_readBars l hc1 _  hJ) ck_X2_46 iv_X2_readBars rfl sx82 rfl rfl rfl rfl rfl rfl dX2_draw_2 (fun M1 hJ => ?_)
  refine zq_aload_n (i := 0) C dX2_draw_5 rfl rfl ?_
  refine zq_iconst (x := 0) C dX2_draw_6 rfl ik_0 ?_
  refine zq_put (kz := 1) C fk_X2_50 sx82 rfl dX2_draw_7 rfl (fun M2 hM2 => ?_)
  have hJ := hJ M2 hM2
  refine zq_iconst (x := 0) C dX2_draw_10 rfl ik_0 ?_
  refine zq_istore_n (i := 2) (lv' := [some (zr 82), some (zr c1), some (zi 0)]) C dX2_draw_11 rfl (Nat.le_of_ble_eq_true rfl) rfl ?_
  exact hl12 _ hJ
set_option maxRecDepth 100000 in
set_option maxHeartbeats 4000000 in
theorem wB_move (l : Launch) (a1 a2 a3 : Int) (M : zM) {Φ : Int → zM → Prop} (hJ : jB_move a1 a2 a3 M Φ) : zMet l yX7_move cX7_move 5 (some .int) 4 96 shX [zr 70, zi a1, zi a2, zi a3] M (zI Φ) := by
  refine zq_enter [some (zr 70), some (zi a1), some (zi a2), some (zi a3), none] (by decide) rfl (Nat.le_of_ble_eq_true rfl) rfl (fun X C => ?_)
  unfold jB_move at hJ
  have hj83 : ∀ (x4 : Int) (M : zM), jB_move_J83 a1 a2 a3 Φ x4 M → zG X M 83 [some (zr 70), some (zi a1), some (zi a2), some (zi a3), some (zi x4)] [] := by
    intro x4 M hJ
    unfold jB_move_J83 at hJ
    refine zq_aload_n (i := 0) C dX7_move_83 rfl rfl ?_
    refine zq_getr C fk_X7_10 sx70 rfl dX7_move_84 ?_
    refine zq_iload_n (i := 2) C dX7_move_87 rfl rfl ?_
    refine zq_iload_n (i := 3) C dX7_move_88 rfl rfl ?_
    refine zq_aload_n (i := 0) C dX7_move_89 rfl rfl ?_
    refine zq_getr C fk_X7_10 sx70 rfl dX7_move_90 ?_
    refine zq_getr C fk_X7_118 sx0 rfl dX7_move_93 ?_
    refine zq_iload C dX7_move_96 rfl ?_
    obtain ⟨h10, h10', hJ⟩ := hJ
    refine zq_iald C sx4 h10 h10' dX7_move_98 ?_
    refine zq_iload C dX7_move_99 rfl ?_
    refine zq_callVi C [zi a2, zi a3, zi (M 4 x4), zi x4] (wC_hasRoom l zch0 _ _ _ _ _  hJ) ck_X7_127 iv_X0_hasRoom rfl sx0 rfl rfl rfl rfl rfl rfl dX7_move_101 (fun r11 N12 hN12 => ?_)
    obtain ⟨rfl, hJ⟩ := hN12
    refine zq_if_ne (tgt := 110) C dX7_move_104 rfl (fun h21 => ?_) (fun h21 => ?_)
    · have hJ := hJ.1 h21
      refine zq_aload_n (i := 0) C dX7_move_110 rfl rfl ?_
      refine zq_getr C fk_X7_16 sx70 rfl dX7_move_111 ?_
      refine zq_aload_n (i := 0) C dX7_move_114 rfl rfl ?_
      refine zq_getr C fk_X7_10 sx70 rfl dX7_move_115 ?_
      refine zq_callVv C [zr 0] (wC_copyFrom l zch10 zch0 _  hJ) ck_X7_64 iv_X0_copyFrom rfl sx10 rfl rfl rfl rfl rfl rfl dX7_move_118 (fun M13 hJ => ?_)
      refine zq_aload_n (i := 0) C dX7_move_121 rfl rfl ?_
      refine zq_getr C fk_X7_16 sx70 rfl dX7_move_122 ?_
      refine zq_getr C fk_X7_121 sx10 rfl dX7_move_125 ?_
      refine zq_iload C dX7_move_128 rfl ?_
      refine zq_iload_n (i := 2) C dX7_move_130 rfl rfl ?_
      obtain ⟨h14, h14', hJ⟩ := hJ
      refine zq_iast C sx12 h14 h14' dX7_move_131 (fun M15 hM15 => ?_)
      have hJ := hJ M15 hM15
      refine zq_aload_n (i := 0) C dX7_move_132 rfl rfl ?_
      refine zq_getr C fk_X7_16 sx70 rfl dX7_move_133 ?_
      refine zq_getr C fk_X7_124 sx10 rfl dX7_move_136 ?_
      refine zq_iload C dX7_move_139 rfl ?_
      refine zq_iload_n (i := 3) C dX7_move_141 rfl rfl ?_
      obtain ⟨h16, h16', hJ⟩ := hJ
      refine zq_iast C sx13 h16 h16' dX7_move_142 (fun M17 hM17 => ?_)
      have hJ := hJ M17 hM17
      refine zq_aload_n (i := 0) C dX7_move_143 rfl rfl ?_
      refine zq_getr C fk_X7_46 sx70 rfl dX7_move_144 ?_
      refine zq_aload_n (i := 0) C dX7_move_147 rfl rfl ?_
      refine zq_getr C fk_X7_16 sx70 rfl dX7_move_148 ?_
      refine zq_callVv C [zr 10] (wD_draw l zch10 _  hJ) ck_X7_131 iv_X2_draw rfl sx82 rfl rfl rfl rfl rfl rfl dX7_move_151 (fun M18 hJ => ?_)
      refine zq_aload_n (i := 0) C dX7_move_154 rfl rfl ?_
      refine zq_aload_n (i := 0) C dX7_move_155 rfl rfl ?_
      refine zq_getr C fk_X7_46 sx70 rfl dX7_move_156 ?_
      refine zq_get (kz := 1) C fk_X7_134 sx82 rfl dX7_move_159 rfl ?_
      refine zq_callVi C [zi (M18 82 1)] (wB_settle l _ _  hJ) ck_X7_72 iv_X7_settle rfl sx70 rfl rfl rfl rfl rfl rfl dX7_move_162 (fun r19 M20 hJ => ?_)
      exact zq_iret C rfl ⟨_, rfl, hJ⟩ dX7_move_165
    · have hJ := hJ.2 h21
      refine zq_bipush (x := (-4)) C dX7_move_107 bi_m4 ik_m4 ?_
      exact zq_iret C rfl ⟨_, rfl, hJ⟩ dX7_move_109
  refine zq_aload_n (i := 0) C dX7_move_0 rfl rfl ?_
  refine zq_getr C fk_X7_10 sx70 rfl dX7_move_1 ?_
  refine zq_iload_n (i := 1) C dX7_move_4 rfl rfl ?_
  refine zq_callVi C [zi a1] (wC_slotOf l zch0 _ _  hJ) ck_X7_91 iv_X0_slotOf rfl sx0 rfl rfl rfl rfl rfl rfl dX7_move_5 (fun r1 N2 hN2 => ?_)
  obtain ⟨rfl, hJ⟩ := hN2
  refine zq_istore (lv' := [some (zr 70), some (zi a1), some (zi a2), some (zi a3), some (zi r1)]) C dX7_move_8 (Nat.le_of_ble_eq_true rfl) rfl ?_
  refine zq_iload C dX7_move_10 rfl ?_
  refine zq_if_lt (tgt := 22) C dX7_move_12 rfl (fun h28 => ?_) (fun h28 => ?_)
  · have hJ := hJ.1 h28
    refine zq_iconst (x := (-1)) C dX7_move_22 rfl ik_m1 ?_
    exact zq_iret C rfl ⟨_, rfl, hJ⟩ dX7_move_23
  · have hJ := hJ.2 h28
    refine zq_iload_n (i := 2) C dX7_move_15 rfl rfl ?_
    refine zq_callSi C [zi a2] (wB_isLane l _ _  hJ) ck_X7_111 st_X7_isLane rfl rfl rfl rfl rfl rfl dX7_move_16 (fun r3 N4 hN4 => ?_)
    obtain ⟨rfl, hJ⟩ := hN4
    refine zq_if_ne (tgt := 24) C dX7_move_19 rfl (fun h27 => ?_) (fun h27 => ?_)
    · have hJ := hJ.1 h27
      refine zq_iload_n (i := 3) C dX7_move_24 rfl rfl ?_
      refine zq_callSi C [zi a3] (wB_isDay l _ _  hJ) ck_X7_115 st_X7_isDay rfl rfl rfl rfl rfl rfl dX7_move_25 (fun r5 N6 hN6 => ?_)
      obtain ⟨rfl, hJ⟩ := hN6
      refine zq_if_eq (tgt := 49) C dX7_move_28 rfl (fun h26 => ?_) (fun h26 => ?_)
      · have hJ := hJ.1 h26
        refine zq_bipush (x := (-2)) C dX7_move_49 bi_m2 ik_m2 ?_
        exact zq_iret C rfl ⟨_, rfl, hJ⟩ dX7_move_51
      · have hJ := hJ.2 h26
        refine zq_iload_n (i := 3) C dX7_move_31 rfl rfl ?_
        refine zq_aload_n (i := 0) C dX7_move_32 rfl rfl ?_
        refine zq_getr C fk_X7_10 sx70 rfl dX7_move_33 ?_
        refine zq_getr C fk_X7_118 sx0 rfl dX7_move_36 ?_
        refine zq_iload C dX7_move_39 rfl ?_
        obtain ⟨h7, h7', hJ⟩ := hJ
        refine zq_iald C sx4 h7 h7' dX7_move_41 ?_
        obtain ⟨h8, hJ⟩ := hJ
        refine zq_iadd C dX7_move_42 h8 ?_
        refine zq_sipush (x := 200) C dX7_move_43 si_200 ik_200 ?_
        refine zq_icmp_le (tgt := 52) C dX7_move_46 rfl (fun h25 => ?_) (fun h25 => ?_)
        · have hJ := hJ.1 h25
          refine zq_aload_n (i := 0) C dX7_move_52 rfl rfl ?_
          refine zq_getr C fk_X7_10 sx70 rfl dX7_move_53 ?_
          refine zq_getr C fk_X7_121 sx0 rfl dX7_move_56 ?_
          refine zq_iload C dX7_move_59 rfl ?_
          obtain ⟨h9, h9', hJ⟩ := hJ
          refine zq_iald C sx2 h9 h9' dX7_move_61 ?_
          refine zq_iload_n (i := 2) C dX7_move_62 rfl rfl ?_
          refine zq_icmp_ne (tgt := 83) C dX7_move_63 rfl (fun h24 => ?_) (fun h24 => ?_)
          · have hJ := hJ.1 h24
            exact hj83 _ _ hJ
          · have hJ := hJ.2 h24
            refine zq_aload_n (i := 0) C dX7_move_66 rfl rfl ?_
            refine zq_getr C fk_X7_10 sx70 rfl dX7_move_67 ?_
            refine zq_getr C fk_X7_124 sx0 rfl dX7_move_70 ?_
            refine zq_iload C dX7_move_73 rfl ?_
            obtain ⟨h22, h22', hJ⟩ := hJ
            refine zq_iald C sx3 h22 h22' dX7_move_75 ?_
            refine zq_iload_n (i := 3) C dX7_move_76 rfl rfl ?_
            refine zq_icmp_ne (tgt := 83) C dX7_move_77 rfl (fun h23 => ?_) (fun h23 => ?_)
            · have hJ := hJ.1 h23
              exact hj83 _ _ hJ
            · have hJ := hJ.2 h23
              refine zq_bipush (x := (-5)) C dX7_move_80 bi_m5 ik_m5 ?_
              exact zq_iret C rfl ⟨_, rfl, hJ⟩ dX7_move_82
        · have hJ := hJ.2 h25
          refine zq_bipush (x := (-2)) C dX7_move_49 bi_m2 ik_m2 ?_
          exact zq_iret C rfl ⟨_, rfl, hJ⟩ dX7_move_51
    · have hJ := hJ.2 h27
      refine zq_iconst (x := (-1)) C dX7_move_22 rfl ik_m1 ?_
      exact zq_iret C rfl ⟨_, rfl, hJ⟩ dX7_move_23
set_option maxRecDepth 100000 in
set_option maxHeartbeats 4000000 in
theorem wC_hasBars (l : Launch) {b : Nat} (hb : zCh b) (a1 : Int) (M : zM) {Φ : Int → Prop} (hJ : jC_hasBars b a1 M Φ) : zMet l yX0_hasBars cX0_hasBars 3 (some .boolean) 0 0 shX [zr b, zi a1] M (zI (fun z M' => M = M' ∧ Φ z)) := by
  refine zq_enter [some (zr b), some (zi a1), none] (by decide) rfl (Nat.le_of_ble_eq_true rfl) rfl (fun X C => ?_)
  unfold jC_hasBars at hJ
  have hl2 : ∀ (s : Int), zwh (fun K s => jC_hasBars_L2 b a1 K Φ M (s)) s → zG X M 2 [some (zr b), some (zi a1), some (zi s)] [] := by
    refine zwh_sound ?_
    intro K2 s hK2 hJ
    obtain ⟨x2, rfl⟩ : ∃ z, z = s := ⟨_, rfl⟩
    have hJ : jC_hasBars_L2 b a1 K2 Φ M x2 := hJ
    show zG X M 2 [some (zr b), some (zi a1), some (zi x2)] []
    unfold jC_hasBars_L2 at hJ
    refine zq_iload_n (i := 2) C dX0_hasBars_2 rfl rfl ?_
    refine zq_aload_n (i := 0) C dX0_hasBars_3 rfl rfl ?_
    refine zq_get (kz := 0) C fk_X0_45 (zs0 hb) rfl dX0_hasBars_4 rfl ?_
    refine zq_icmp_ge (tgt := 28) C dX0_hasBars_7 rfl (fun h4 => ?_) (fun h4 => ?_)
    · have hJ := hJ.1 h4
      refine zq_iconst (x := 0) C dX0_hasBars_28 rfl ik_0 ?_
      exact zq_zret C rfl (Or.inl rfl) ⟨_, rfl, rfl, hJ⟩ dX0_hasBars_29
    · have hJ := hJ.2 h4
      refine zq_aload_n (i := 0) C dX0_hasBars_10 rfl rfl ?_
      refine zq_getr C fk_X0_15 (zs0 hb) rfl dX0_hasBars_11 ?_
      refine zq_iload_n (i := 2) C dX0_hasBars_14 rfl rfl ?_
      obtain ⟨h1, h1', hJ⟩ := hJ
      refine zq_iald C (zs2 hb) h1 h1' dX0_hasBars_15 ?_
      refine zq_iload_n (i := 1) C dX0_hasBars_16 rfl rfl ?_
      refine zq_icmp_ne (tgt := 22) C dX0_hasBars_17 rfl (fun h3 => ?_) (fun h3 => ?_)
      · have hJ := hJ.1 h3
        obtain ⟨hv2_2, hJ⟩ := hJ
        refine zq_iinc (y := x2 + 1) (lv' := [some (zr b), some (zi a1), some (zi (x2 + 1))]) C dX0_hasBars_22 rfl rfl hv2_2 rfl ?_
        obtain ⟨v2_2, ev2_2⟩ : ∃ z, z = x2 + 1 := ⟨_, rfl⟩
        rw [← ev2_2]
        have hJ := hJ v2_2 ev2_2
        refine zq_goto (tgt := 2) C dX0_hasBars_25 rfl ?_
        exact hK2 _ hJ
      · have hJ := hJ.2 h3
        refine zq_iconst (x := 1) C dX0_hasBars_20 rfl ik_1 ?_
        exact zq_zret C rfl (Or.inr rfl) ⟨_, rfl, rfl, hJ⟩ dX0_hasBars_21
  refine zq_iconst (x := 0) C dX0_hasBars_0 rfl ik_0 ?_
  refine zq_istore_n (i := 2) (lv' := [some (zr b), some (zi a1), some (zi 0)]) C dX0_hasBars_1 rfl (Nat.le_of_ble_eq_true rfl) rfl ?_
  exact hl2 _ hJ
set_option maxRecDepth 100000 in
set_option maxHeartbeats 4000000 in
theorem wC_exchangeLanes (l : Launch) {b : Nat} (hb : zCh b) (a1 a2 : Int) (M : zM) {Φ : zM → Prop} (hJ : jC_exchangeLanes b a1 a2 M Φ) : zMet l yX0_exchangeLanes cX0_exchangeLanes 4 none 0 0 shX [zr b, zi a1, zi a2] M (zU Φ) := by
  refine zq_enter [some (zr b), some (zi a1), some (zi a2), none] (by decide) rfl (Nat.le_of_ble_eq_true rfl) rfl (fun X C => ?_)
  unfold jC_exchangeLanes at hJ
  have hl2 : ∀ (s : Int × zM), zwh (fun K s => jC_exchangeLanes_L2 b a1 a2 K Φ (s.1) (s.2)) s → zG X (s.2) 2 [some (zr b), some (zi a1), some (zi a2), some (zi (s.1))] [] := by
    refine zwh_sound ?_
    intro K2 s hK2 hJ
    obtain ⟨x3, M⟩ := s
    have hJ : jC_exchangeLanes_L2 b a1 a2 K2 Φ x3 M := hJ
    show zG X M 2 [some (zr b), some (zi a1), some (zi a2), some (zi x3)] []
    unfold jC_exchangeLanes_L2 at hJ
    refine zq_iload_n (i := 3) C dX0_exchangeLanes_2 rfl rfl ?_
    refine zq_aload_n (i := 0) C dX0_exchangeLanes_3 rfl rfl ?_
    refine zq_get (kz := 0) C fk_X0_45 (zs0 hb) rfl dX0_exchangeLanes_4 rfl ?_
    refine zq_icmp_ge (tgt := 53) C dX0_exchangeLanes_7 rfl (fun h12 => ?_) (fun h12 => ?_)
    · have hJ := hJ.1 h12
      exact zq_vret C rfl hJ dX0_exchangeLanes_53
    · have hJ := hJ.2 h12
      refine zq_aload_n (i := 0) C dX0_exchangeLanes_10 rfl rfl ?_
      refine zq_getr C fk_X0_15 (zs0 hb) rfl dX0_exchangeLanes_11 ?_
      refine zq_iload_n (i := 3) C dX0_exchangeLanes_14 rfl rfl ?_
      obtain ⟨h1, h1', hJ⟩ := hJ
      refine zq_iald C (zs2 hb) h1 h1' dX0_exchangeLanes_15 ?_
      refine zq_iload_n (i := 1) C dX0_exchangeLanes_16 rfl rfl ?_
      refine zq_icmp_ne (tgt := 30) C dX0_exchangeLanes_17 rfl (fun h11 => ?_) (fun h11 => ?_)
      · have hJ := hJ.1 h11
        refine zq_aload_n (i := 0) C dX0_exchangeLanes_30 rfl rfl ?_
        refine zq_getr C fk_X0_15 (zs0 hb) rfl dX0_exchangeLanes_31 ?_
        refine zq_iload_n (i := 3) C dX0_exchangeLanes_34 rfl rfl ?_
        obtain ⟨h2, h2', hJ⟩ := hJ
        refine zq_iald C (zs2 hb) h2 h2' dX0_exchangeLanes_35 ?_
        refine zq_iload_n (i := 2) C dX0_exchangeLanes_36 rfl rfl ?_
        refine zq_icmp_ne (tgt := 47) C dX0_exchangeLanes_37 rfl (fun h7 => ?_) (fun h7 => ?_)
        · have hJ := hJ.1 h7
          obtain ⟨hv3_3, hJ⟩ := hJ
          refine zq_iinc (y := x3 + 1) (lv' := [some (zr b), some (zi a1), some (zi a2), some (zi (x3 + 1))]) C dX0_exchangeLanes_47 rfl rfl hv3_3 rfl ?_
          obtain ⟨v3_3, ev3_3⟩ : ∃ z, z = x3 + 1 := ⟨_, rfl⟩
          rw [← ev3_3]
          have hJ := hJ v3_3 ev3_3
          refine zq_goto (tgt := 2) C dX0_exchangeLanes_50 rfl ?_
          exact hK2 _ hJ
        · have hJ := hJ.2 h7
          refine zq_aload_n (i := 0) C dX0_exchangeLanes_40 rfl rfl ?_
          refine zq_getr C fk_X0_15 (zs0 hb) rfl dX0_exchangeLanes_41 ?_
          refine zq_iload_n (i := 3) C dX0_exchangeLanes_44 rfl rfl ?_
          refine zq_iload_n (i := 1) C dX0_exchangeLanes_45 rfl rfl ?_
          obtain ⟨h4, h4', hJ⟩ := hJ
          refine zq_iast C (zs2 hb) h4 h4' dX0_exchangeLanes_46 (fun M5 hM5 => ?_)
          have hJ := hJ M5 hM5
          obtain ⟨hv3_6, hJ⟩ := hJ
          refine zq_iinc (y := x3 + 1) (lv' := [some (zr b), some (zi a1), some (zi a2), some (zi (x3 + 1))]) C dX0_exchangeLanes_47 rfl rfl hv3_6 rfl ?_
          obtain ⟨v3_6, ev3_6⟩ : ∃ z, z = x3 + 1 := ⟨_, rfl⟩
          rw [← ev3_6]
          have hJ := hJ v3_6 ev3_6
          refine zq_goto (tgt := 2) C dX0_exchangeLanes_50 rfl ?_
          exact hK2 _ hJ
      · have hJ := hJ.2 h11
        refine zq_aload_n (i := 0) C dX0_exchangeLanes_20 rfl rfl ?_
        refine zq_getr C fk_X0_15 (zs0 hb) rfl dX0_exchangeLanes_21 ?_
        refine zq_iload_n (i := 3) C dX0_exchangeLanes_24 rfl rfl ?_
        refine zq_iload_n (i := 2) C dX0_exchangeLanes_25 rfl rfl ?_
        obtain ⟨h8, h8', hJ⟩ := hJ
        refine zq_iast C (zs2 hb) h8 h8' dX0_exchangeLanes_26 (fun M9 hM9 => ?_)
        have hJ := hJ M9 hM9
        refine zq_goto (tgt := 47) C dX0_exchangeLanes_27 rfl ?_
        obtain ⟨hv3_10, hJ⟩ := hJ
        refine zq_iinc (y := x3 + 1) (lv' := [some (zr b), some (zi a1), some (zi a2), some (zi (x3 + 1))]) C dX0_exchangeLanes_47 rfl rfl hv3_10 rfl ?_
        obtain ⟨v3_10, ev3_10⟩ : ∃ z, z = x3 + 1 := ⟨_, rfl⟩
        rw [← ev3_10]
        have hJ := hJ v3_10 ev3_10
        refine zq_goto (tgt := 2) C dX0_exchangeLanes_50 rfl ?_
        exact hK2 _ hJ
  refine zq_iconst (x := 0) C dX0_exchangeLanes_0 rfl ik_0 ?_
  refine zq_istore_n (i := 3) (lv' := [some (zr b), some (zi a1), some (zi a2), some (zi 0)]) C dX0_exchangeLanes_1 rfl (Nat.le_of_ble_eq_true rfl) rfl ?_
  exact hl2 _ hJ
set_option maxRecDepth 100000 in
set_option maxHeartbeats 4000000 in
theorem wB_swap (l : Launch) (a1 a2 : Int) (M : zM) {Φ : Int → zM → Prop} (hJ : jB_swap a1 a2 M Φ) : zMet l yX7_swap cX7_swap 3 (some .int) 4 96 shX [zr 70, zi a1, zi a2] M (zI Φ) := by
  refine zq_enter [some (zr 70), some (zi a1), some (zi a2)] (by decide) rfl (Nat.le_of_ble_eq_true rfl) rfl (fun X C => ?_)
  unfold jB_swap at hJ
  have hj46 : ∀ (M : zM), jB_swap_J46 a1 a2 Φ M → zG X M 46 [some (zr 70), some (zi a1), some (zi a2)] [] := by
    intro M hJ
    unfold jB_swap_J46 at hJ
    refine zq_aload_n (i := 0) C dX7_swap_46 rfl rfl ?_
    refine zq_getr C fk_X7_16 sx70 rfl dX7_swap_47 ?_
    refine zq_aload_n (i := 0) C dX7_swap_50 rfl rfl ?_
    refine zq_getr C fk_X7_10 sx70 rfl dX7_swap_51 ?_
    refine zq_callVv C [zr 0] (wC_copyFrom l zch10 zch0 _  hJ) ck_X7_64 iv_X0_copyFrom rfl sx10 rfl rfl rfl rfl rfl rfl dX7_swap_54 (fun M7 hJ => ?_)
    refine zq_aload_n (i := 0) C dX7_swap_57 rfl rfl ?_
    refine zq_getr C fk_X7_16 sx70 rfl dX7_swap_58 ?_
    refine zq_iload_n (i := 1) C dX7_swap_61 rfl rfl ?_
    refine zq_iload_n (i := 2) C dX7_swap_62 rfl rfl ?_
    refine zq_callVv C [zi a1, zi a2] (wC_exchangeLanes l zch10 _ _ _  hJ) ck_X7_140 iv_X0_exchangeLanes rfl sx10 rfl rfl rfl rfl rfl rfl dX7_swap_63 (fun M8 hJ => ?_)
    refine zq_aload_n (i := 0) C dX7_swap_66 rfl rfl ?_
    refine zq_getr C fk_X7_46 sx70 rfl dX7_swap_67 ?_
    refine zq_aload_n (i := 0) C dX7_swap_70 rfl rfl ?_
    refine zq_getr C fk_X7_16 sx70 rfl dX7_swap_71 ?_
    refine zq_callVv C [zr 10] (wD_draw l zch10 _  hJ) ck_X7_131 iv_X2_draw rfl sx82 rfl rfl rfl rfl rfl rfl dX7_swap_74 (fun M9 hJ => ?_)
    refine zq_aload_n (i := 0) C dX7_swap_77 rfl rfl ?_
    refine zq_aload_n (i := 0) C dX7_swap_78 rfl rfl ?_
    refine zq_getr C fk_X7_46 sx70 rfl dX7_swap_79 ?_
    refine zq_get (kz := 1) C fk_X7_134 sx82 rfl dX7_swap_82 rfl ?_
    refine zq_callVi C [zi (M9 82 1)] (wB_settle l _ _  hJ) ck_X7_72 iv_X7_settle rfl sx70 rfl rfl rfl rfl rfl rfl dX7_swap_85 (fun r10 M11 hJ => ?_)
    exact zq_iret C rfl ⟨_, rfl, hJ⟩ dX7_swap_88
  refine zq_iload_n (i := 1) C dX7_swap_0 rfl rfl ?_
  refine zq_callSi C [zi a1] (wB_isLane l _ _  hJ) ck_X7_111 st_X7_isLane rfl rfl rfl rfl rfl rfl dX7_swap_1 (fun r1 N2 hN2 => ?_)
  obtain ⟨rfl, hJ⟩ := hN2
  refine zq_if_eq (tgt := 14) C dX7_swap_4 rfl (fun h18 => ?_) (fun h18 => ?_)
  · have hJ := hJ.1 h18
    refine zq_iconst (x := (-1)) C dX7_swap_14 rfl ik_m1 ?_
    exact zq_iret C rfl ⟨_, rfl, hJ⟩ dX7_swap_15
  · have hJ := hJ.2 h18
    refine zq_iload_n (i := 2) C dX7_swap_7 rfl rfl ?_
    refine zq_callSi C [zi a2] (wB_isLane l _ _  hJ) ck_X7_111 st_X7_isLane rfl rfl rfl rfl rfl rfl dX7_swap_8 (fun r3 N4 hN4 => ?_)
    obtain ⟨rfl, hJ⟩ := hN4
    refine zq_if_ne (tgt := 16) C dX7_swap_11 rfl (fun h17 => ?_) (fun h17 => ?_)
    · have hJ := hJ.1 h17
      refine zq_iload_n (i := 1) C dX7_swap_16 rfl rfl ?_
      refine zq_iload_n (i := 2) C dX7_swap_17 rfl rfl ?_
      refine zq_icmp_eq (tgt := 43) C dX7_swap_18 rfl (fun h16 => ?_) (fun h16 => ?_)
      · have hJ := hJ.1 h16
        refine zq_bipush (x := (-5)) C dX7_swap_43 bi_m5 ik_m5 ?_
        exact zq_iret C rfl ⟨_, rfl, hJ⟩ dX7_swap_45
      · have hJ := hJ.2 h16
        refine zq_aload_n (i := 0) C dX7_swap_21 rfl rfl ?_
        refine zq_getr C fk_X7_10 sx70 rfl dX7_swap_22 ?_
        refine zq_iload_n (i := 1) C dX7_swap_25 rfl rfl ?_
        refine zq_callVi C [zi a1] (wC_hasBars l zch0 _ _  hJ) ck_X7_137 iv_X0_hasBars rfl sx0 rfl rfl rfl rfl rfl rfl dX7_swap_26 (fun r5 N6 hN6 => ?_)
        obtain ⟨rfl, hJ⟩ := hN6
        refine zq_if_ne (tgt := 46) C dX7_swap_29 rfl (fun h15 => ?_) (fun h15 => ?_)
        · have hJ := hJ.1 h15
          exact hj46 _ hJ
        · have hJ := hJ.2 h15
          refine zq_aload_n (i := 0) C dX7_swap_32 rfl rfl ?_
          refine zq_getr C fk_X7_10 sx70 rfl dX7_swap_33 ?_
          refine zq_iload_n (i := 2) C dX7_swap_36 rfl rfl ?_
          refine zq_callVi C [zi a2] (wC_hasBars l zch0 _ _  hJ) ck_X7_137 iv_X0_hasBars rfl sx0 rfl rfl rfl rfl rfl rfl dX7_swap_37 (fun r12 N13 hN13 => ?_)
          obtain ⟨rfl, hJ⟩ := hN13
          refine zq_if_ne (tgt := 46) C dX7_swap_40 rfl (fun h14 => ?_) (fun h14 => ?_)
          · have hJ := hJ.1 h14
            exact hj46 _ hJ
          · have hJ := hJ.2 h14
            refine zq_bipush (x := (-5)) C dX7_swap_43 bi_m5 ik_m5 ?_
            exact zq_iret C rfl ⟨_, rfl, hJ⟩ dX7_swap_45
    · have hJ := hJ.2 h17
      refine zq_iconst (x := (-1)) C dX7_swap_14 rfl ik_m1 ?_
      exact zq_iret C rfl ⟨_, rfl, hJ⟩ dX7_swap_15
set_option maxRecDepth 100000 in
set_option maxHeartbeats 4000000 in
theorem wP_sortByFirstDays (l : Launch) {c1 : Nat} (hc1 : zCh c1)  (M : zM) {Φ : zM → Prop} (hJ : jP_sortByFirstDays c1 M Φ) : zMet l yX5_sortByFirstDays cX5_sortByFirstDays 4 none 0 0 shX [zr 78, zr c1] M (zU Φ) := by
  refine zq_enter [some (zr 78), some (zr c1), none, none] (by decide) rfl (Nat.le_of_ble_eq_true rfl) rfl (fun X C => ?_)
  unfold jP_sortByFirstDays at hJ
  have hl2 : ∀ (s : Int × zM), zwh (fun K s => jP_sortByFirstDays_L2 c1 K Φ (s.1) (s.2)) s → zG X (s.2) 2 [some (zr 78), some (zr c1), some (zi (s.1)), none] [] := by
    refine zwh_sound ?_
    intro K2 s hK2 hJ
    obtain ⟨x2, M⟩ := s
    have hJ : jP_sortByFirstDays_L2 c1 K2 Φ x2 M := hJ
    show zG X M 2 [some (zr 78), some (zr c1), some (zi x2), none] []
    unfold jP_sortByFirstDays_L2 at hJ
    have hj58 : ∀ (x2 x3 : Int) (M : zM), jP_sortByFirstDays_J58 c1 K2 Φ x2 x3 M → zG X M 58 [some (zr 78), some (zr c1), some (zi x2), some (zi x3)] [] := by
      intro x2 x3 M hJ
      unfold jP_sortByFirstDays_J58 at hJ
      refine zq_aload_n (i := 0) C dX5_sortByFirstDays_58 rfl rfl ?_
      refine zq_getr C fk_X5_9 sx78 rfl dX5_sortByFirstDays_59 ?_
      refine zq_iload_n (i := 3) C dX5_sortByFirstDays_62 rfl rfl ?_
      refine zq_iload_n (i := 2) C dX5_sortByFirstDays_63 rfl rfl ?_
      obtain ⟨h1, h1', hJ⟩ := hJ
      refine zq_iast C sx79 h1 h1' dX5_sortByFirstDays_64 (fun M2 hM2 => ?_)
      have hJ := hJ M2 hM2
      obtain ⟨hv2_3, hJ⟩ := hJ
      refine zq_iinc (y := x2 + 1) (lv' := [some (zr 78), some (zr c1), some (zi (x2 + 1)), some (zi x3)]) C dX5_sortByFirstDays_65 rfl rfl hv2_3 rfl ?_
      obtain ⟨v2_3, ev2_3⟩ : ∃ z, z = x2 + 1 := ⟨_, rfl⟩
      rw [← ev2_3]
      have hJ := hJ v2_3 ev2_3
      refine zq_goto (tgt := 2) C dX5_sortByFirstDays_68 rfl ?_
      refine zq_weak [some (zr 78), some (zr c1), some (zi v2_3), none] ⟨Or.inr rfl, Or.inr rfl, Or.inr rfl, Or.inl rfl, trivial⟩ ?_
      exact hK2 _ hJ
    have hl12 : ∀ (x2 : Int) (s : Int × zM), zwh (fun K s => jP_sortByFirstDays_L12 c1 K2 K Φ x2 (s.1) (s.2)) s → zG X (s.2) 12 [some (zr 78), some (zr c1), some (zi x2), some (zi (s.1))] [] := by
      intro x2
      refine zwh_sound ?_
      intro K12 s hK12 hJ
      obtain ⟨x3, M⟩ := s
      have hJ : jP_sortByFirstDays_L12 c1 K2 K12 Φ x2 x3 M := hJ
      show zG X M 12 [some (zr 78), some (zr c1), some (zi x2), some (zi x3)] []
      unfold jP_sortByFirstDays_L12 at hJ
      refine zq_iload_n (i := 3) C dX5_sortByFirstDays_12 rfl rfl ?_
      refine zq_if_le (tgt := 58) C dX5_sortByFirstDays_13 rfl (fun h14 => ?_) (fun h14 => ?_)
      · have hJ := hJ.1 h14
        exact hj58 _ _ _ hJ
      · have hJ := hJ.2 h14
        refine zq_aload_n (i := 1) C dX5_sortByFirstDays_16 rfl rfl ?_
        refine zq_getr C fk_X5_48 (zs0 hc1) rfl dX5_sortByFirstDays_17 ?_
        refine zq_aload_n (i := 0) C dX5_sortByFirstDays_20 rfl rfl ?_
        refine zq_getr C fk_X5_9 sx78 rfl dX5_sortByFirstDays_21 ?_
        refine zq_iload_n (i := 3) C dX5_sortByFirstDays_24 rfl rfl ?_
        refine zq_iconst (x := 1) C dX5_sortByFirstDays_25 rfl ik_1 ?_
        obtain ⟨h4, hJ⟩ := hJ
        refine zq_isub C dX5_sortByFirstDays_26 h4 ?_
        obtain ⟨h5, h5', hJ⟩ := hJ
        refine zq_iald C sx79 h5 h5' dX5_sortByFirstDays_27 ?_
        obtain ⟨h6, h6', hJ⟩ := hJ
        refine zq_iald C (zs3 hc1) h6 h6' dX5_sortByFirstDays_28 ?_
        refine zq_aload_n (i := 1) C dX5_sortByFirstDays_29 rfl rfl ?_
        refine zq_getr C fk_X5_48 (zs0 hc1) rfl dX5_sortByFirstDays_30 ?_
        refine zq_iload_n (i := 2) C dX5_sortByFirstDays_33 rfl rfl ?_
        obtain ⟨h7, h7', hJ⟩ := hJ
        refine zq_iald C (zs3 hc1) h7 h7' dX5_sortByFirstDays_34 ?_
        refine zq_icmp_le (tgt := 58) C dX5_sortByFirstDays_35 rfl (fun h13 => ?_) (fun h13 => ?_)
        · have hJ := hJ.1 h13
          exact hj58 _ _ _ hJ
        · have hJ := hJ.2 h13
          refine zq_aload_n (i := 0) C dX5_sortByFirstDays_38 rfl rfl ?_
          refine zq_getr C fk_X5_9 sx78 rfl dX5_sortByFirstDays_39 ?_
          refine zq_iload_n (i := 3) C dX5_sortByFirstDays_42 rfl rfl ?_
          refine zq_aload_n (i := 0) C dX5_sortByFirstDays_43 rfl rfl ?_
          refine zq_getr C fk_X5_9 sx78 rfl dX5_sortByFirstDays_44 ?_
          refine zq_iload_n (i := 3) C dX5_sortByFirstDays_47 rfl rfl ?_
          refine zq_iconst (x := 1) C dX5_sortByFirstDays_48 rfl ik_1 ?_
          obtain ⟨h8, hJ⟩ := hJ
          refine zq_isub C dX5_sortByFirstDays_49 h8 ?_
          obtain ⟨h9, h9', hJ⟩ := hJ
          refine zq_iald C sx79 h9 h9' dX5_sortByFirstDays_50 ?_
          obtain ⟨h10, h10', hJ⟩ := hJ
          refine zq_iast C sx79 h10 h10' dX5_sortByFirstDays_51 (fun M11 hM11 => ?_)
          have hJ := hJ M11 hM11
          obtain ⟨hv3_12, hJ⟩ := hJ
          refine zq_iinc (y := x3 + (-1)) (lv' := [some (zr 78), some (zr c1), some (zi x2), some (zi (x3 + (-1)))]) C dX5_sortByFirstDays_52 rfl rfl hv3_12 rfl ?_
          obtain ⟨v3_12, ev3_12⟩ : ∃ z, z = x3 + (-1) := ⟨_, rfl⟩
          rw [← ev3_12]
          have hJ := hJ v3_12 ev3_12
          refine zq_goto (tgt := 12) C dX5_sortByFirstDays_55 rfl ?_
          exact hK12 _ hJ
    refine zq_iload_n (i := 2) C dX5_sortByFirstDays_2 rfl rfl ?_
    refine zq_aload_n (i := 1) C dX5_sortByFirstDays_3 rfl rfl ?_
    refine zq_get (kz := 0) C fk_X5_25 (zs0 hc1) rfl dX5_sortByFirstDays_4 rfl ?_
    refine zq_icmp_ge (tgt := 71) C dX5_sortByFirstDays_7 rfl (fun h15 => ?_) (fun h15 => ?_)
    · have hJ := hJ.1 h15
      exact zq_vret C rfl hJ dX5_sortByFirstDays_71
    · have hJ := hJ.2 h15
      refine zq_iload_n (i := 2) C dX5_sortByFirstDays_10 rfl rfl ?_
      refine zq_istore_n (i := 3) (lv' := [some (zr 78), some (zr c1), some (zi x2), some (zi x2)]) C dX5_sortByFirstDays_11 rfl (Nat.le_of_ble_eq_true rfl) rfl ?_
      exact hl12 _ _ hJ
  refine zq_iconst (x := 0) C dX5_sortByFirstDays_0 rfl ik_0 ?_
  refine zq_istore_n (i := 2) (lv' := [some (zr 78), some (zr c1), some (zi 0), none]) C dX5_sortByFirstDays_1 rfl (Nat.le_of_ble_eq_true rfl) rfl ?_
  exact hl2 _ hJ
set_option maxRecDepth 100000 in
set_option maxHeartbeats 4000000 in
theorem wC_isTaken (l : Launch) {b : Nat} (hb : zCh b) (a2 a3 : Int) (M : zM) {Φ : Int → Prop} (hJ : jC_isTaken b a2 a3 M Φ) : zMet l yX0_isTaken cX0_isTaken 7 (some .boolean) 2 44 shX [zr b, zr 79, zi a2, zi a3] M (zI (fun z M' => M = M' ∧ Φ z)) := by
  refine zq_enter [some (zr b), some (zr 79), some (zi a2), some (zi a3), none, none, none] (by decide) rfl (Nat.le_of_ble_eq_true rfl) rfl (fun X C => ?_)
  unfold jC_isTaken at hJ
  have hl8 : ∀ (x4 : Int) (s : Int), zwh (fun K s => jC_isTaken_L8 b a2 a3 K Φ x4 M (s)) s → zG X M 8 [some (zr b), some (zr 79), some (zi a2), some (zi a3), some (zi x4), some (zi s), none] [] := by
    intro x4
    refine zwh_sound ?_
    intro K8 s hK8 hJ
    obtain ⟨x5, rfl⟩ : ∃ z, z = s := ⟨_, rfl⟩
    have hJ : jC_isTaken_L8 b a2 a3 K8 Φ x4 M x5 := hJ
    show zG X M 8 [some (zr b), some (zr 79), some (zi a2), some (zi a3), some (zi x4), some (zi x5), none] []
    unfold jC_isTaken_L8 at hJ
    refine zq_iload C dX0_isTaken_8 rfl ?_
    refine zq_iload_n (i := 2) C dX0_isTaken_10 rfl rfl ?_
    refine zq_icmp_ge (tgt := 61) C dX0_isTaken_11 rfl (fun h15 => ?_) (fun h15 => ?_)
    · have hJ := hJ.1 h15
      refine zq_iconst (x := 0) C dX0_isTaken_61 rfl ik_0 ?_
      exact zq_zret C rfl (Or.inl rfl) ⟨_, rfl, rfl, hJ⟩ dX0_isTaken_62
    · have hJ := hJ.2 h15
      refine zq_aload_n (i := 1) C dX0_isTaken_14 rfl rfl ?_
      refine zq_iload C dX0_isTaken_15 rfl ?_
      obtain ⟨h3, h3', hJ⟩ := hJ
      refine zq_iald C sx79 h3 h3' dX0_isTaken_17 ?_
      refine zq_istoreN C (fun v => [some (zr b), some (zr 79), some (zi a2), some (zi a3), some (zi x4), some (zi x5), some (zi v)]) dX0_isTaken_18 (Nat.le_of_ble_eq_true rfl) (fun _ => rfl) (fun v6_4 hv6_4 => ?_)
      have hJ := hJ v6_4 hv6_4
      refine zq_aload_n (i := 0) C dX0_isTaken_20 rfl rfl ?_
      refine zq_getr C fk_X0_15 (zs0 hb) rfl dX0_isTaken_21 ?_
      refine zq_iload C dX0_isTaken_24 rfl ?_
      obtain ⟨h5, h5', hJ⟩ := hJ
      refine zq_iald C (zs2 hb) h5 h5' dX0_isTaken_26 ?_
      refine zq_iload_n (i := 3) C dX0_isTaken_27 rfl rfl ?_
      refine zq_icmp_ne (tgt := 55) C dX0_isTaken_28 rfl (fun h14 => ?_) (fun h14 => ?_)
      · have hJ := hJ.1 h14
        obtain ⟨hv5_6, hJ⟩ := hJ
        refine zq_iinc (y := x5 + 1) (lv' := [some (zr b), some (zr 79), some (zi a2), some (zi a3), some (zi x4), some (zi (x5 + 1)), some (zi v6_4)]) C dX0_isTaken_55 rfl rfl hv5_6 rfl ?_
        obtain ⟨v5_6, ev5_6⟩ : ∃ z, z = x5 + 1 := ⟨_, rfl⟩
        rw [← ev5_6]
        have hJ := hJ v5_6 ev5_6
        refine zq_goto (tgt := 8) C dX0_isTaken_58 rfl ?_
        refine zq_weak [some (zr b), some (zr 79), some (zi a2), some (zi a3), some (zi x4), some (zi v5_6), none] ⟨Or.inr rfl, Or.inr rfl, Or.inr rfl, Or.inr rfl, Or.inr rfl, Or.inr rfl, Or.inl rfl, trivial⟩ ?_
        exact hK8 _ hJ
      · have hJ := hJ.2 h14
        refine zq_aload_n (i := 0) C dX0_isTaken_31 rfl rfl ?_
        refine zq_iload C dX0_isTaken_32 rfl ?_
        refine zq_aload_n (i := 0) C dX0_isTaken_34 rfl rfl ?_
        refine zq_getr C fk_X0_18 (zs0 hb) rfl dX0_isTaken_35 ?_
        refine zq_iload C dX0_isTaken_38 rfl ?_
        obtain ⟨h7, h7', hJ⟩ := hJ
        refine zq_iald C (zs3 hb) h7 h7' dX0_isTaken_40 ?_
        refine zq_aload_n (i := 0) C dX0_isTaken_41 rfl rfl ?_
        refine zq_iload C dX0_isTaken_42 rfl ?_
        refine zq_callVi C [zi x4] (wC_endOf l hb _ _  hJ) ck_X0_97 iv_X0_endOf rfl (zs0 hb) rfl rfl rfl rfl rfl rfl dX0_isTaken_44 (fun r8 N9 hN9 => ?_)
        obtain ⟨rfl, hJ⟩ := hN9
        refine zq_callVi C [zi v6_4, zi (M (b + 3) x4), zi r8] (wC_sharesDays l hb _ _ _ _  hJ) ck_X0_93 iv_X0_sharesDays rfl (zs0 hb) rfl rfl rfl rfl rfl rfl dX0_isTaken_47 (fun r10 N11 hN11 => ?_)
        obtain ⟨rfl, hJ⟩ := hN11
        refine zq_if_eq (tgt := 55) C dX0_isTaken_50 rfl (fun h13 => ?_) (fun h13 => ?_)
        · have hJ := hJ.1 h13
          obtain ⟨hv5_12, hJ⟩ := hJ
          refine zq_iinc (y := x5 + 1) (lv' := [some (zr b), some (zr 79), some (zi a2), some (zi a3), some (zi x4), some (zi (x5 + 1)), some (zi v6_4)]) C dX0_isTaken_55 rfl rfl hv5_12 rfl ?_
          obtain ⟨v5_12, ev5_12⟩ : ∃ z, z = x5 + 1 := ⟨_, rfl⟩
          rw [← ev5_12]
          have hJ := hJ v5_12 ev5_12
          refine zq_goto (tgt := 8) C dX0_isTaken_58 rfl ?_
          refine zq_weak [some (zr b), some (zr 79), some (zi a2), some (zi a3), some (zi x4), some (zi v5_12), none] ⟨Or.inr rfl, Or.inr rfl, Or.inr rfl, Or.inr rfl, Or.inr rfl, Or.inr rfl, Or.inl rfl, trivial⟩ ?_
          exact hK8 _ hJ
        · have hJ := hJ.2 h13
          refine zq_iconst (x := 1) C dX0_isTaken_53 rfl ik_1 ?_
          exact zq_zret C rfl (Or.inr rfl) ⟨_, rfl, rfl, hJ⟩ dX0_isTaken_54
  refine zq_aload_n (i := 1) C dX0_isTaken_0 rfl rfl ?_
  refine zq_iload_n (i := 2) C dX0_isTaken_1 rfl rfl ?_
  obtain ⟨h1, h1', hJ⟩ := hJ
  refine zq_iald C sx79 h1 h1' dX0_isTaken_2 ?_
  refine zq_istoreN C (fun v => [some (zr b), some (zr 79), some (zi a2), some (zi a3), some (zi v), none, none]) dX0_isTaken_3 (Nat.le_of_ble_eq_true rfl) (fun _ => rfl) (fun v4_2 hv4_2 => ?_)
  have hJ := hJ v4_2 hv4_2
  refine zq_iconst (x := 0) C dX0_isTaken_5 rfl ik_0 ?_
  refine zq_istore (lv' := [some (zr b), some (zr 79), some (zi a2), some (zi a3), some (zi v4_2), some (zi 0), none]) C dX0_isTaken_6 (Nat.le_of_ble_eq_true rfl) rfl ?_
  exact hl8 _ _ hJ
set_option maxRecDepth 100000 in
set_option maxHeartbeats 4000000 in
theorem wC_lowestLane (l : Launch) {b : Nat} (hb : zCh b) (a2 : Int) (M : zM) {Φ : Int → Prop} (hJ : jC_lowestLane b a2 M Φ) : zMet l yX0_lowestLane cX0_lowestLane 4 (some .int) 3 70 shX [zr b, zr 79, zi a2] M (zI (fun z M' => M = M' ∧ Φ z)) := by
  refine zq_enter [some (zr b), some (zr 79), some (zi a2), none] (by decide) rfl (Nat.le_of_ble_eq_true rfl) rfl (fun X C => ?_)
  unfold jC_lowestLane at hJ
  have hl2 : ∀ (s : Int), zwh (fun K s => jC_lowestLane_L2 b a2 K Φ M (s)) s → zG X M 2 [some (zr b), some (zr 79), some (zi a2), some (zi s)] [] := by
    refine zwh_sound ?_
    intro K2 s hK2 hJ
    obtain ⟨x3, rfl⟩ : ∃ z, z = s := ⟨_, rfl⟩
    have hJ : jC_lowestLane_L2 b a2 K2 Φ M x3 := hJ
    show zG X M 2 [some (zr b), some (zr 79), some (zi a2), some (zi x3)] []
    unfold jC_lowestLane_L2 at hJ
    refine zq_iload_n (i := 3) C dX0_lowestLane_2 rfl rfl ?_
    refine zq_bipush (x := 12) C dX0_lowestLane_3 bi_12 ik_12 ?_
    refine zq_icmp_ge (tgt := 24) C dX0_lowestLane_5 rfl (fun h5 => ?_) (fun h5 => ?_)
    · have hJ := hJ.1 h5
      refine zq_iload_n (i := 3) C dX0_lowestLane_24 rfl rfl ?_
      exact zq_iret C rfl ⟨_, rfl, rfl, hJ⟩ dX0_lowestLane_25
    · have hJ := hJ.2 h5
      refine zq_aload_n (i := 0) C dX0_lowestLane_8 rfl rfl ?_
      refine zq_aload_n (i := 1) C dX0_lowestLane_9 rfl rfl ?_
      refine zq_iload_n (i := 2) C dX0_lowestLane_10 rfl rfl ?_
      refine zq_iload_n (i := 3) C dX0_lowestLane_11 rfl rfl ?_
      refine zq_callVi C [zr 79, zi a2, zi x3] (wC_isTaken l hb _ _ _  hJ) ck_X0_108 iv_X0_isTaken rfl (zs0 hb) rfl rfl rfl rfl rfl rfl dX0_lowestLane_12 (fun r1 N2 hN2 => ?_)
      obtain ⟨rfl, hJ⟩ := hN2
      refine zq_if_eq (tgt := 24) C dX0_lowestLane_15 rfl (fun h4 => ?_) (fun h4 => ?_)
      · have hJ := hJ.1 h4
        refine zq_iload_n (i := 3) C dX0_lowestLane_24 rfl rfl ?_
        exact zq_iret C rfl ⟨_, rfl, rfl, hJ⟩ dX0_lowestLane_25
      · have hJ := hJ.2 h4
        obtain ⟨hv3_3, hJ⟩ := hJ
        refine zq_iinc (y := x3 + 1) (lv' := [some (zr b), some (zr 79), some (zi a2), some (zi (x3 + 1))]) C dX0_lowestLane_18 rfl rfl hv3_3 rfl ?_
        obtain ⟨v3_3, ev3_3⟩ : ∃ z, z = x3 + 1 := ⟨_, rfl⟩
        rw [← ev3_3]
        have hJ := hJ v3_3 ev3_3
        refine zq_goto (tgt := 2) C dX0_lowestLane_21 rfl ?_
        exact hK2 _ hJ
  refine zq_iconst (x := 0) C dX0_lowestLane_0 rfl ik_0 ?_
  refine zq_istore_n (i := 3) (lv' := [some (zr b), some (zr 79), some (zi a2), some (zi 0)]) C dX0_lowestLane_1 rfl (Nat.le_of_ble_eq_true rfl) rfl ?_
  exact hl2 _ hJ
set_option maxRecDepth 100000 in
set_option maxHeartbeats 4000000 in
theorem wC_lanesWithBars (l : Launch) {b : Nat} (hb : zCh b)  (M : zM) {Φ : Int → Prop} (hJ : jC_lanesWithBars b M Φ) : zMet l yX0_lanesWithBars cX0_lanesWithBars 3 (some .int) 1 22 shX [zr b] M (zI (fun z M' => M = M' ∧ Φ z)) := by
  refine zq_enter [some (zr b), none, none] (by decide) rfl (Nat.le_of_ble_eq_true rfl) rfl (fun X C => ?_)
  unfold jC_lanesWithBars at hJ
  have hl4 : ∀ (s : Int × Int), zwh (fun K s => jC_lanesWithBars_L4 b K Φ M (s.1) (s.2)) s → zG X M 4 [some (zr b), some (zi (s.1)), some (zi (s.2))] [] := by
    refine zwh_sound ?_
    intro K4 s hK4 hJ
    obtain ⟨x1, x2⟩ := s
    have hJ : jC_lanesWithBars_L4 b K4 Φ M x1 x2 := hJ
    show zG X M 4 [some (zr b), some (zi x1), some (zi x2)] []
    unfold jC_lanesWithBars_L4 at hJ
    refine zq_iload_n (i := 2) C dX0_lanesWithBars_4 rfl rfl ?_
    refine zq_bipush (x := 12) C dX0_lanesWithBars_5 bi_12 ik_12 ?_
    refine zq_icmp_ge (tgt := 32) C dX0_lanesWithBars_7 rfl (fun h10 => ?_) (fun h10 => ?_)
    · have hJ := hJ.1 h10
      refine zq_iload_n (i := 1) C dX0_lanesWithBars_32 rfl rfl ?_
      exact zq_iret C rfl ⟨_, rfl, rfl, hJ⟩ dX0_lanesWithBars_33
    · have hJ := hJ.2 h10
      refine zq_iload_n (i := 1) C dX0_lanesWithBars_10 rfl rfl ?_
      refine zq_aload_n (i := 0) C dX0_lanesWithBars_11 rfl rfl ?_
      refine zq_iload_n (i := 2) C dX0_lanesWithBars_12 rfl rfl ?_
      refine zq_callVi C [zi x2] (wC_hasBars l hb _ _  hJ) ck_X0_121 iv_X0_hasBars rfl (zs0 hb) rfl rfl rfl rfl rfl rfl dX0_lanesWithBars_13 (fun r1 N2 hN2 => ?_)
      obtain ⟨rfl, hJ⟩ := hN2
      refine zq_if_eq (tgt := 23) C dX0_lanesWithBars_16 rfl (fun h9 => ?_) (fun h9 => ?_)
      · have hJ := hJ.1 h9
        refine zq_iconst (x := 0) C dX0_lanesWithBars_23 rfl ik_0 ?_
        obtain ⟨h3, hJ⟩ := hJ
        refine zq_iadd C dX0_lanesWithBars_24 h3 ?_
        refine zq_istoreN_n (i := 1) C (fun v => [some (zr b), some (zi v), some (zi x2)]) dX0_lanesWithBars_25 rfl (Nat.le_of_ble_eq_true rfl) (fun _ => rfl) (fun v1_4 hv1_4 => ?_)
        have hJ := hJ v1_4 hv1_4
        obtain ⟨hv2_5, hJ⟩ := hJ
        refine zq_iinc (y := x2 + 1) (lv' := [some (zr b), some (zi v1_4), some (zi (x2 + 1))]) C dX0_lanesWithBars_26 rfl rfl hv2_5 rfl ?_
        obtain ⟨v2_5, ev2_5⟩ : ∃ z, z = x2 + 1 := ⟨_, rfl⟩
        rw [← ev2_5]
        have hJ := hJ v2_5 ev2_5
        refine zq_goto (tgt := 4) C dX0_lanesWithBars_29 rfl ?_
        exact hK4 _ hJ
      · have hJ := hJ.2 h9
        refine zq_iconst (x := 1) C dX0_lanesWithBars_19 rfl ik_1 ?_
        refine zq_goto (tgt := 24) C dX0_lanesWithBars_20 rfl ?_
        obtain ⟨h6, hJ⟩ := hJ
        refine zq_iadd C dX0_lanesWithBars_24 h6 ?_
        refine zq_istoreN_n (i := 1) C (fun v => [some (zr b), some (zi v), some (zi x2)]) dX0_lanesWithBars_25 rfl (Nat.le_of_ble_eq_true rfl) (fun _ => rfl) (fun v1_7 hv1_7 => ?_)
        have hJ := hJ v1_7 hv1_7
        obtain ⟨hv2_8, hJ⟩ := hJ
        refine zq_iinc (y := x2 + 1) (lv' := [some (zr b), some (zi v1_7), some (zi (x2 + 1))]) C dX0_lanesWithBars_26 rfl rfl hv2_8 rfl ?_
        obtain ⟨v2_8, ev2_8⟩ : ∃ z, z = x2 + 1 := ⟨_, rfl⟩
        rw [← ev2_8]
        have hJ := hJ v2_8 ev2_8
        refine zq_goto (tgt := 4) C dX0_lanesWithBars_29 rfl ?_
        exact hK4 _ hJ
  refine zq_iconst (x := 0) C dX0_lanesWithBars_0 rfl ik_0 ?_
  refine zq_istore_n (i := 1) (lv' := [some (zr b), some (zi 0), none]) C dX0_lanesWithBars_1 rfl (Nat.le_of_ble_eq_true rfl) rfl ?_
  refine zq_iconst (x := 0) C dX0_lanesWithBars_2 rfl ik_0 ?_
  refine zq_istore_n (i := 2) (lv' := [some (zr b), some (zi 0), some (zi 0)]) C dX0_lanesWithBars_3 rfl (Nat.le_of_ble_eq_true rfl) rfl ?_
  exact hl4 _ hJ
set_option maxRecDepth 100000 in
set_option maxHeartbeats 4000000 in
theorem wC_packLanes (l : Launch) {b : Nat} (hb : zCh b)  (M : zM) {Φ : Int → zM → Prop} (hJ : jC_packLanes b M Φ) : zMet l yX0_packLanes cX0_packLanes 6 (some .int) 4 93 shX [zr b, zr 79] M (zI Φ) := by
  refine zq_enter [some (zr b), some (zr 79), none, none, none, none] (by decide) rfl (Nat.le_of_ble_eq_true rfl) rfl (fun X C => ?_)
  unfold jC_packLanes at hJ
  have hl4 : ∀ (s : Int × Int × zM), zwh (fun K s => jC_packLanes_L4 b K Φ (s.1) (s.2.1) (s.2.2)) s → zG X (s.2.2) 4 [some (zr b), some (zr 79), some (zi (s.1)), some (zi (s.2.1)), none, none] [] := by
    refine zwh_sound ?_
    intro K4 s hK4 hJ
    obtain ⟨x2, x3, M⟩ := s
    have hJ : jC_packLanes_L4 b K4 Φ x2 x3 M := hJ
    show zG X M 4 [some (zr b), some (zr 79), some (zi x2), some (zi x3), none, none] []
    unfold jC_packLanes_L4 at hJ
    refine zq_iload_n (i := 3) C dX0_packLanes_4 rfl rfl ?_
    refine zq_aload_n (i := 0) C dX0_packLanes_5 rfl rfl ?_
    refine zq_get (kz := 0) C fk_X0_45 (zs0 hb) rfl dX0_packLanes_6 rfl ?_
    refine zq_icmp_ge (tgt := 64) C dX0_packLanes_9 rfl (fun h15 => ?_) (fun h15 => ?_)
    · have hJ := hJ.1 h15
      refine zq_iload_n (i := 2) C dX0_packLanes_64 rfl rfl ?_
      refine zq_if_eq (tgt := 75) C dX0_packLanes_65 rfl (fun h3 => ?_) (fun h3 => ?_)
      · have hJ := hJ.1 h3
        refine zq_bipush (x := (-5)) C dX0_packLanes_75 bi_m5 ik_m5 ?_
        exact zq_iret C rfl ⟨_, rfl, hJ⟩ dX0_packLanes_77
      · have hJ := hJ.2 h3
        refine zq_aload_n (i := 0) C dX0_packLanes_68 rfl rfl ?_
        refine zq_callVi C [] (wC_lanesWithBars l hb _  hJ) ck_X0_104 iv_X0_lanesWithBars rfl (zs0 hb) rfl rfl rfl rfl rfl rfl dX0_packLanes_69 (fun r1 N2 hN2 => ?_)
        obtain ⟨rfl, hJ⟩ := hN2
        refine zq_goto (tgt := 77) C dX0_packLanes_72 rfl ?_
        exact zq_iret C rfl ⟨_, rfl, hJ⟩ dX0_packLanes_77
    · have hJ := hJ.2 h15
      refine zq_aload_n (i := 1) C dX0_packLanes_12 rfl rfl ?_
      refine zq_iload_n (i := 3) C dX0_packLanes_13 rfl rfl ?_
      obtain ⟨h4, h4', hJ⟩ := hJ
      refine zq_iald C sx79 h4 h4' dX0_packLanes_14 ?_
      refine zq_istoreN C (fun v => [some (zr b), some (zr 79), some (zi x2), some (zi x3), some (zi v), none]) dX0_packLanes_15 (Nat.le_of_ble_eq_true rfl) (fun _ => rfl) (fun v4_5 hv4_5 => ?_)
      have hJ := hJ v4_5 hv4_5
      refine zq_aload_n (i := 0) C dX0_packLanes_17 rfl rfl ?_
      refine zq_aload_n (i := 1) C dX0_packLanes_18 rfl rfl ?_
      refine zq_iload_n (i := 3) C dX0_packLanes_19 rfl rfl ?_
      refine zq_callVi C [zr 79, zi x3] (wC_lowestLane l hb _ _  hJ) ck_X0_100 iv_X0_lowestLane rfl (zs0 hb) rfl rfl rfl rfl rfl rfl dX0_packLanes_20 (fun r6 N7 hN7 => ?_)
      obtain ⟨rfl, hJ⟩ := hN7
      refine zq_istore (lv' := [some (zr b), some (zr 79), some (zi x2), some (zi x3), some (zi v4_5), some (zi r6)]) C dX0_packLanes_23 (Nat.le_of_ble_eq_true rfl) rfl ?_
      refine zq_iload C dX0_packLanes_25 rfl ?_
      refine zq_bipush (x := 12) C dX0_packLanes_27 bi_12 ik_12 ?_
      refine zq_icmp_lt (tgt := 35) C dX0_packLanes_29 rfl (fun h14 => ?_) (fun h14 => ?_)
      · have hJ := hJ.1 h14
        refine zq_aload_n (i := 0) C dX0_packLanes_35 rfl rfl ?_
        refine zq_getr C fk_X0_15 (zs0 hb) rfl dX0_packLanes_36 ?_
        refine zq_iload C dX0_packLanes_39 rfl ?_
        obtain ⟨h8, h8', hJ⟩ := hJ
        refine zq_iald C (zs2 hb) h8 h8' dX0_packLanes_41 ?_
        refine zq_iload C dX0_packLanes_42 rfl ?_
        refine zq_icmp_eq (tgt := 58) C dX0_packLanes_44 rfl (fun h13 => ?_) (fun h13 => ?_)
        · have hJ := hJ.1 h13
          obtain ⟨hv3_9, hJ⟩ := hJ
          refine zq_iinc (y := x3 + 1) (lv' := [some (zr b), some (zr 79), some (zi x2), some (zi (x3 + 1)), some (zi v4_5), some (zi r6)]) C dX0_packLanes_58 rfl rfl hv3_9 rfl ?_
          obtain ⟨v3_9, ev3_9⟩ : ∃ z, z = x3 + 1 := ⟨_, rfl⟩
          rw [← ev3_9]
          have hJ := hJ v3_9 ev3_9
          refine zq_goto (tgt := 4) C dX0_packLanes_61 rfl ?_
          refine zq_weak [some (zr b), some (zr 79), some (zi x2), some (zi v3_9), none, none] ⟨Or.inr rfl, Or.inr rfl, Or.inr rfl, Or.inr rfl, Or.inl rfl, Or.inl rfl, trivial⟩ ?_
          exact hK4 _ hJ
        · have hJ := hJ.2 h13
          refine zq_aload_n (i := 0) C dX0_packLanes_47 rfl rfl ?_
          refine zq_getr C fk_X0_15 (zs0 hb) rfl dX0_packLanes_48 ?_
          refine zq_iload C dX0_packLanes_51 rfl ?_
          refine zq_iload C dX0_packLanes_53 rfl ?_
          obtain ⟨h10, h10', hJ⟩ := hJ
          refine zq_iast C (zs2 hb) h10 h10' dX0_packLanes_55 (fun M11 hM11 => ?_)
          have hJ := hJ M11 hM11
          refine zq_iconst (x := 1) C dX0_packLanes_56 rfl ik_1 ?_
          refine zq_istore_n (i := 2) (lv' := [some (zr b), some (zr 79), some (zi 1), some (zi x3), some (zi v4_5), some (zi r6)]) C dX0_packLanes_57 rfl (Nat.le_of_ble_eq_true rfl) rfl ?_
          obtain ⟨hv3_12, hJ⟩ := hJ
          refine zq_iinc (y := x3 + 1) (lv' := [some (zr b), some (zr 79), some (zi 1), some (zi (x3 + 1)), some (zi v4_5), some (zi r6)]) C dX0_packLanes_58 rfl rfl hv3_12 rfl ?_
          obtain ⟨v3_12, ev3_12⟩ : ∃ z, z = x3 + 1 := ⟨_, rfl⟩
          rw [← ev3_12]
          have hJ := hJ v3_12 ev3_12
          refine zq_goto (tgt := 4) C dX0_packLanes_61 rfl ?_
          refine zq_weak [some (zr b), some (zr 79), some (zi 1), some (zi v3_12), none, none] ⟨Or.inr rfl, Or.inr rfl, Or.inr rfl, Or.inr rfl, Or.inl rfl, Or.inl rfl, trivial⟩ ?_
          exact hK4 _ hJ
      · have hJ := hJ.2 h14
        refine zq_bipush (x := (-4)) C dX0_packLanes_32 bi_m4 ik_m4 ?_
        exact zq_iret C rfl ⟨_, rfl, hJ⟩ dX0_packLanes_34
  refine zq_iconst (x := 0) C dX0_packLanes_0 rfl ik_0 ?_
  refine zq_istore_n (i := 2) (lv' := [some (zr b), some (zr 79), some (zi 0), none, none, none]) C dX0_packLanes_1 rfl (Nat.le_of_ble_eq_true rfl) rfl ?_
  refine zq_iconst (x := 0) C dX0_packLanes_2 rfl ik_0 ?_
  refine zq_istore_n (i := 3) (lv' := [some (zr b), some (zr 79), some (zi 0), some (zi 0), none, none]) C dX0_packLanes_3 rfl (Nat.le_of_ble_eq_true rfl) rfl ?_
  exact hl4 _ hJ
set_option maxRecDepth 100000 in
set_option maxHeartbeats 4000000 in
theorem wB_pack (l : Launch)  (M : zM) {Φ : Int → zM → Prop} (hJ : jB_pack  M Φ) : zMet l yX7_pack cX7_pack 1 (some .int) 5 118 shX [zr 70] M (zI Φ) := by
  refine zq_enter [some (zr 70)] (by decide) rfl (Nat.le_of_ble_eq_true rfl) rfl (fun X C => ?_)
  unfold jB_pack at hJ
  refine zq_aload_n (i := 0) C dX7_pack_0 rfl rfl ?_
  refine zq_getr C fk_X7_16 sx70 rfl dX7_pack_1 ?_
  refine zq_aload_n (i := 0) C dX7_pack_4 rfl rfl ?_
  refine zq_getr C fk_X7_10 sx70 rfl dX7_pack_5 ?_
  refine zq_callVv C [zr 0] (wC_copyFrom l zch10 zch0 _  hJ) ck_X7_64 iv_X0_copyFrom rfl sx10 rfl rfl rfl rfl rfl rfl dX7_pack_8 (fun M1 hJ => ?_)
  refine zq_aload_n (i := 0) C dX7_pack_11 rfl rfl ?_
  refine zq_getr C fk_X7_39 sx70 rfl dX7_pack_12 ?_
  refine zq_aload_n (i := 0) C dX7_pack_15 rfl rfl ?_
  refine zq_getr C fk_X7_16 sx70 rfl dX7_pack_16 ?_
  refine zq_callVv C [zr 10] (wP_sortByFirstDays l zch10 _  hJ) ck_X7_144 iv_X5_sortByFirstDays rfl sx78 rfl rfl rfl rfl rfl rfl dX7_pack_19 (fun M2 hJ => ?_)
  refine zq_aload_n (i := 0) C dX7_pack_22 rfl rfl ?_
  refine zq_aload_n (i := 0) C dX7_pack_23 rfl rfl ?_
  refine zq_getr C fk_X7_16 sx70 rfl dX7_pack_24 ?_
  refine zq_aload_n (i := 0) C dX7_pack_27 rfl rfl ?_
  refine zq_getr C fk_X7_39 sx70 rfl dX7_pack_28 ?_
  refine zq_getr C fk_X7_147 sx78 rfl dX7_pack_31 ?_
  refine zq_callVi C [zr 79] (wC_packLanes l zch10 _  hJ) ck_X7_150 iv_X0_packLanes rfl sx10 rfl rfl rfl rfl rfl rfl dX7_pack_34 (fun r3 M4 hJ => ?_)
  refine zq_callVi C [zi r3] (wB_settle l _ _  hJ) ck_X7_72 iv_X7_settle rfl sx70 rfl rfl rfl rfl rfl rfl dX7_pack_37 (fun r5 M6 hJ => ?_)
  exact zq_iret C rfl ⟨_, rfl, hJ⟩ dX7_pack_40
set_option maxRecDepth 100000 in
set_option maxHeartbeats 4000000 in
theorem wP_behindInLane (l : Launch) {c1 : Nat} (hc1 : zCh c1) (a2 : Int) (M : zM) {Φ : Int → Prop} (hJ : jP_behindInLane c1 a2 M Φ) : zMet l yX5_behindInLane cX5_behindInLane 5 (some .int) 0 0 shX [zr 78, zr c1, zi a2] M (zI (fun z M' => M = M' ∧ Φ z)) := by
  refine zq_enter [some (zr 78), some (zr c1), some (zi a2), none, none] (by decide) rfl (Nat.le_of_ble_eq_true rfl) rfl (fun X C => ?_)
  unfold jP_behindInLane at hJ
  have hl5 : ∀ (s : Int × Int), zwh (fun K s => jP_behindInLane_L5 c1 a2 K Φ M (s.1) (s.2)) s → zG X M 5 [some (zr 78), some (zr c1), some (zi a2), some (zi (s.1)), some (zi (s.2))] [] := by
    refine zwh_sound ?_
    intro K5 s hK5 hJ
    obtain ⟨x3, x4⟩ := s
    have hJ : jP_behindInLane_L5 c1 a2 K5 Φ M x3 x4 := hJ
    show zG X M 5 [some (zr 78), some (zr c1), some (zi a2), some (zi x3), some (zi x4)] []
    unfold jP_behindInLane_L5 at hJ
    refine zq_iload C dX5_behindInLane_5 rfl ?_
    refine zq_aload_n (i := 1) C dX5_behindInLane_7 rfl rfl ?_
    refine zq_get (kz := 0) C fk_X5_25 (zs0 hc1) rfl dX5_behindInLane_8 rfl ?_
    refine zq_icmp_ge (tgt := 59) C dX5_behindInLane_11 rfl (fun h11 => ?_) (fun h11 => ?_)
    · have hJ := hJ.1 h11
      refine zq_iload_n (i := 3) C dX5_behindInLane_59 rfl rfl ?_
      exact zq_iret C rfl ⟨_, rfl, rfl, hJ⟩ dX5_behindInLane_60
    · have hJ := hJ.2 h11
      refine zq_aload_n (i := 1) C dX5_behindInLane_14 rfl rfl ?_
      refine zq_getr C fk_X5_51 (zs0 hc1) rfl dX5_behindInLane_15 ?_
      refine zq_iload C dX5_behindInLane_18 rfl ?_
      obtain ⟨h1, h1', hJ⟩ := hJ
      refine zq_iald C (zs2 hc1) h1 h1' dX5_behindInLane_20 ?_
      refine zq_aload_n (i := 1) C dX5_behindInLane_21 rfl rfl ?_
      refine zq_getr C fk_X5_51 (zs0 hc1) rfl dX5_behindInLane_22 ?_
      refine zq_iload_n (i := 2) C dX5_behindInLane_25 rfl rfl ?_
      obtain ⟨h2, h2', hJ⟩ := hJ
      refine zq_iald C (zs2 hc1) h2 h2' dX5_behindInLane_26 ?_
      refine zq_icmp_ne (tgt := 53) C dX5_behindInLane_27 rfl (fun h10 => ?_) (fun h10 => ?_)
      · have hJ := hJ.1 h10
        obtain ⟨hv4_3, hJ⟩ := hJ
        refine zq_iinc (y := x4 + 1) (lv' := [some (zr 78), some (zr c1), some (zi a2), some (zi x3), some (zi (x4 + 1))]) C dX5_behindInLane_53 rfl rfl hv4_3 rfl ?_
        obtain ⟨v4_3, ev4_3⟩ : ∃ z, z = x4 + 1 := ⟨_, rfl⟩
        rw [← ev4_3]
        have hJ := hJ v4_3 ev4_3
        refine zq_goto (tgt := 5) C dX5_behindInLane_56 rfl ?_
        exact hK5 _ hJ
      · have hJ := hJ.2 h10
        refine zq_aload_n (i := 1) C dX5_behindInLane_30 rfl rfl ?_
        refine zq_getr C fk_X5_48 (zs0 hc1) rfl dX5_behindInLane_31 ?_
        refine zq_iload C dX5_behindInLane_34 rfl ?_
        obtain ⟨h4, h4', hJ⟩ := hJ
        refine zq_iald C (zs3 hc1) h4 h4' dX5_behindInLane_36 ?_
        refine zq_aload_n (i := 1) C dX5_behindInLane_37 rfl rfl ?_
        refine zq_getr C fk_X5_48 (zs0 hc1) rfl dX5_behindInLane_38 ?_
        refine zq_iload_n (i := 2) C dX5_behindInLane_41 rfl rfl ?_
        obtain ⟨h5, h5', hJ⟩ := hJ
        refine zq_iald C (zs3 hc1) h5 h5' dX5_behindInLane_42 ?_
        refine zq_icmp_le (tgt := 53) C dX5_behindInLane_43 rfl (fun h9 => ?_) (fun h9 => ?_)
        · have hJ := hJ.1 h9
          obtain ⟨hv4_6, hJ⟩ := hJ
          refine zq_iinc (y := x4 + 1) (lv' := [some (zr 78), some (zr c1), some (zi a2), some (zi x3), some (zi (x4 + 1))]) C dX5_behindInLane_53 rfl rfl hv4_6 rfl ?_
          obtain ⟨v4_6, ev4_6⟩ : ∃ z, z = x4 + 1 := ⟨_, rfl⟩
          rw [← ev4_6]
          have hJ := hJ v4_6 ev4_6
          refine zq_goto (tgt := 5) C dX5_behindInLane_56 rfl ?_
          exact hK5 _ hJ
        · have hJ := hJ.2 h9
          refine zq_iload_n (i := 3) C dX5_behindInLane_46 rfl rfl ?_
          refine zq_iconst (x := 1) C dX5_behindInLane_47 rfl ik_1 ?_
          refine zq_iload C dX5_behindInLane_48 rfl ?_
          refine zq_ishl C dX5_behindInLane_50 ?_
          refine zq_ior C dX5_behindInLane_51 ?_
          refine zq_istoreN_n (i := 3) C (fun v => [some (zr 78), some (zr c1), some (zi a2), some (zi v), some (zi x4)]) dX5_behindInLane_52 rfl (Nat.le_of_ble_eq_true rfl) (fun _ => rfl) (fun v3_7 hv3_7 => ?_)
          have hJ := hJ v3_7 hv3_7
          obtain ⟨hv4_8, hJ⟩ := hJ
          refine zq_iinc (y := x4 + 1) (lv' := [some (zr 78), some (zr c1), some (zi a2), some (zi v3_7), some (zi (x4 + 1))]) C dX5_behindInLane_53 rfl rfl hv4_8 rfl ?_
          obtain ⟨v4_8, ev4_8⟩ : ∃ z, z = x4 + 1 := ⟨_, rfl⟩
          rw [← ev4_8]
          have hJ := hJ v4_8 ev4_8
          refine zq_goto (tgt := 5) C dX5_behindInLane_56 rfl ?_
          exact hK5 _ hJ
  refine zq_iconst (x := 0) C dX5_behindInLane_0 rfl ik_0 ?_
  refine zq_istore_n (i := 3) (lv' := [some (zr 78), some (zr c1), some (zi a2), some (zi 0), none]) C dX5_behindInLane_1 rfl (Nat.le_of_ble_eq_true rfl) rfl ?_
  refine zq_iconst (x := 0) C dX5_behindInLane_2 rfl ik_0 ?_
  refine zq_istore (lv' := [some (zr 78), some (zr c1), some (zi a2), some (zi 0), some (zi 0)]) C dX5_behindInLane_3 (Nat.le_of_ble_eq_true rfl) rfl ?_
  exact hl5 _ hJ
set_option maxRecDepth 100000 in
set_option maxHeartbeats 4000000 in
theorem wC_lateBy (l : Launch) {b : Nat} (hb : zCh b) (a1 : Int) (M : zM) {Φ : Int → Prop} (hJ : jC_lateBy b a1 M Φ) : zMet l yX0_lateBy cX0_lateBy 2 (some .int) 1 21 shX [zr b, zi a1] M (zI (fun z M' => M = M' ∧ Φ z)) := by
  refine zq_enter [some (zr b), some (zi a1)] (by decide) rfl (Nat.le_of_ble_eq_true rfl) rfl (fun X C => ?_)
  unfold jC_lateBy at hJ
  refine zq_iconst (x := 0) C dX0_lateBy_0 rfl ik_0 ?_
  refine zq_aload_n (i := 0) C dX0_lateBy_1 rfl rfl ?_
  refine zq_aload_n (i := 0) C dX0_lateBy_2 rfl rfl ?_
  refine zq_getr C fk_X0_27 (zs0 hb) rfl dX0_lateBy_3 ?_
  refine zq_iload_n (i := 1) C dX0_lateBy_6 rfl rfl ?_
  obtain ⟨h1, h1', hJ⟩ := hJ
  refine zq_iald C (zs6 hb) h1 h1' dX0_lateBy_7 ?_
  refine zq_callVi C [zi (M (b + 6) a1)] (wC_endOf l hb _ _  hJ) ck_X0_97 iv_X0_endOf rfl (zs0 hb) rfl rfl rfl rfl rfl rfl dX0_lateBy_8 (fun r2 N3 hN3 => ?_)
  obtain ⟨rfl, hJ⟩ := hN3
  refine zq_aload_n (i := 0) C dX0_lateBy_11 rfl rfl ?_
  refine zq_getr C fk_X0_18 (zs0 hb) rfl dX0_lateBy_12 ?_
  refine zq_aload_n (i := 0) C dX0_lateBy_15 rfl rfl ?_
  refine zq_getr C fk_X0_30 (zs0 hb) rfl dX0_lateBy_16 ?_
  refine zq_iload_n (i := 1) C dX0_lateBy_19 rfl rfl ?_
  obtain ⟨h4, h4', hJ⟩ := hJ
  refine zq_iald C (zs7 hb) h4 h4' dX0_lateBy_20 ?_
  obtain ⟨h5, h5', hJ⟩ := hJ
  refine zq_iald C (zs3 hb) h5 h5' dX0_lateBy_21 ?_
  obtain ⟨h6, hJ⟩ := hJ
  refine zq_isub C dX0_lateBy_22 h6 ?_
  refine zq_max C mk_X0_112 rfl ⟨Nat.le_of_ble_eq_true rfl, Nat.le_of_ble_eq_true rfl⟩ dX0_lateBy_23 ?_
  exact zq_iret C rfl ⟨_, rfl, rfl, hJ⟩ dX0_lateBy_26
set_option maxRecDepth 100000 in
set_option maxHeartbeats 4000000 in
theorem wP_read (l : Launch) {c1 : Nat} (hc1 : zCh c1)  (M : zM) {Φ : zM → Prop} (hJ : jP_read c1 M Φ) : zMet l yX5_read cX5_read 3 none 2 42 shX [zr 78, zr c1] M (zU Φ) := by
  refine zq_enter [some (zr 78), some (zr c1), none] (by decide) rfl (Nat.le_of_ble_eq_true rfl) rfl (fun X C => ?_)
  unfold jP_read at hJ
  have hl35 : ∀ (s : Int × zM), zwh (fun K s => jP_read_L35 c1 K Φ (s.1) (s.2)) s → zG X (s.2) 35 [some (zr 78), some (zr c1), some (zi (s.1))] [] := by
    refine zwh_sound ?_
    intro K35 s hK35 hJ
    obtain ⟨x2, M⟩ := s
    have hJ : jP_read_L35 c1 K35 Φ x2 M := hJ
    show zG X M 35 [some (zr 78), some (zr c1), some (zi x2)] []
    unfold jP_read_L35 at hJ
    refine zq_iload_n (i := 2) C dX5_read_35 rfl rfl ?_
    refine zq_aload_n (i := 1) C dX5_read_36 rfl rfl ?_
    refine zq_get (kz := 6) C fk_X5_35 (zs0 hc1) rfl dX5_read_37 rfl ?_
    refine zq_icmp_ge (tgt := 79) C dX5_read_40 rfl (fun h12 => ?_) (fun h12 => ?_)
    · have hJ := hJ.1 h12
      exact zq_vret C rfl hJ dX5_read_79
    · have hJ := hJ.2 h12
      refine zq_aload_n (i := 1) C dX5_read_43 rfl rfl ?_
      refine zq_iload_n (i := 2) C dX5_read_44 rfl rfl ?_
      refine zq_callVi C [zi x2] (wC_lateBy l hc1 _ _  hJ) ck_X5_38 iv_X0_lateBy rfl (zs0 hc1) rfl rfl rfl rfl rfl rfl dX5_read_45 (fun r2 N3 hN3 => ?_)
      obtain ⟨rfl, hJ⟩ := hN3
      refine zq_if_ne (tgt := 73) C dX5_read_48 rfl (fun h11 => ?_) (fun h11 => ?_)
      · have hJ := hJ.1 h11
        obtain ⟨hv2_4, hJ⟩ := hJ
        refine zq_iinc (y := x2 + 1) (lv' := [some (zr 78), some (zr c1), some (zi (x2 + 1))]) C dX5_read_73 rfl rfl hv2_4 rfl ?_
        obtain ⟨v2_4, ev2_4⟩ : ∃ z, z = x2 + 1 := ⟨_, rfl⟩
        rw [← ev2_4]
        have hJ := hJ v2_4 ev2_4
        refine zq_goto (tgt := 35) C dX5_read_76 rfl ?_
        exact hK35 _ hJ
      · have hJ := hJ.2 h11
        refine zq_aload_n (i := 0) C dX5_read_51 rfl rfl ?_
        refine zq_getr C fk_X5_15 sx78 rfl dX5_read_52 ?_
        refine zq_aload_n (i := 1) C dX5_read_55 rfl rfl ?_
        refine zq_getr C fk_X5_42 (zs0 hc1) rfl dX5_read_56 ?_
        refine zq_iload_n (i := 2) C dX5_read_59 rfl rfl ?_
        obtain ⟨h5, h5', hJ⟩ := hJ
        refine zq_iald C (zs6 hc1) h5 h5' dX5_read_60 ?_
        refine zq_dup2 C dX5_read_61 rfl rfl ?_
        obtain ⟨h6, h6', hJ⟩ := hJ
        refine zq_iald C sx80 h6 h6' dX5_read_62 ?_
        refine zq_iconst (x := 1) C dX5_read_63 rfl ik_1 ?_
        refine zq_aload_n (i := 1) C dX5_read_64 rfl rfl ?_
        refine zq_getr C fk_X5_45 (zs0 hc1) rfl dX5_read_65 ?_
        refine zq_iload_n (i := 2) C dX5_read_68 rfl rfl ?_
        obtain ⟨h7, h7', hJ⟩ := hJ
        refine zq_iald C (zs7 hc1) h7 h7' dX5_read_69 ?_
        refine zq_ishl C dX5_read_70 ?_
        refine zq_ior C dX5_read_71 ?_
        obtain ⟨h8, h8', hJ⟩ := hJ
        refine zq_iast C sx80 h8 h8' dX5_read_72 (fun M9 hM9 => ?_)
        have hJ := hJ M9 hM9
        obtain ⟨hv2_10, hJ⟩ := hJ
        refine zq_iinc (y := x2 + 1) (lv' := [some (zr 78), some (zr c1), some (zi (x2 + 1))]) C dX5_read_73 rfl rfl hv2_10 rfl ?_
        obtain ⟨v2_10, ev2_10⟩ : ∃ z, z = x2 + 1 := ⟨_, rfl⟩
        rw [← ev2_10]
        have hJ := hJ v2_10 ev2_10
        refine zq_goto (tgt := 35) C dX5_read_76 rfl ?_
        exact hK35 _ hJ
  have hl7 : ∀ (s : Int × zM), zwh (fun K s => jP_read_L7 c1 K Φ (s.1) (s.2)) s → zG X (s.2) 7 [some (zr 78), some (zr c1), some (zi (s.1))] [] := by
    refine zwh_sound ?_
    intro K7 s hK7 hJ
    obtain ⟨x2, M⟩ := s
    have hJ : jP_read_L7 c1 K7 Φ x2 M := hJ
    show zG X M 7 [some (zr 78), some (zr c1), some (zi x2)] []
    unfold jP_read_L7 at hJ
    refine zq_iload_n (i := 2) C dX5_read_7 rfl rfl ?_
    refine zq_aload_n (i := 1) C dX5_read_8 rfl rfl ?_
    refine zq_get (kz := 0) C fk_X5_25 (zs0 hc1) rfl dX5_read_9 rfl ?_
    refine zq_icmp_ge (tgt := 33) C dX5_read_12 rfl (fun h18 => ?_) (fun h18 => ?_)
    · have hJ := hJ.1 h18
      refine zq_iconst (x := 0) C dX5_read_33 rfl ik_0 ?_
      refine zq_istore_n (i := 2) (lv' := [some (zr 78), some (zr c1), some (zi 0)]) C dX5_read_34 rfl (Nat.le_of_ble_eq_true rfl) rfl ?_
      exact hl35 _ hJ
    · have hJ := hJ.2 h18
      refine zq_aload_n (i := 0) C dX5_read_15 rfl rfl ?_
      refine zq_getr C fk_X5_15 sx78 rfl dX5_read_16 ?_
      refine zq_iload_n (i := 2) C dX5_read_19 rfl rfl ?_
      refine zq_aload_n (i := 0) C dX5_read_20 rfl rfl ?_
      refine zq_aload_n (i := 1) C dX5_read_21 rfl rfl ?_
      refine zq_iload_n (i := 2) C dX5_read_22 rfl rfl ?_
      refine zq_callVi C [zr c1, zi x2] (wP_behindInLane l hc1 _ _  hJ) ck_X5_31 iv_X5_behindInLane rfl sx78 rfl rfl rfl rfl rfl rfl dX5_read_23 (fun r13 N14 hN14 => ?_)
      obtain ⟨rfl, hJ⟩ := hN14
      obtain ⟨h15, h15', hJ⟩ := hJ
      refine zq_iast C sx80 h15 h15' dX5_read_26 (fun M16 hM16 => ?_)
      have hJ := hJ M16 hM16
      obtain ⟨hv2_17, hJ⟩ := hJ
      refine zq_iinc (y := x2 + 1) (lv' := [some (zr 78), some (zr c1), some (zi (x2 + 1))]) C dX5_read_27 rfl rfl hv2_17 rfl ?_
      obtain ⟨v2_17, ev2_17⟩ : ∃ z, z = x2 + 1 := ⟨_, rfl⟩
      rw [← ev2_17]
      have hJ := hJ v2_17 ev2_17
      refine zq_goto (tgt := 7) C dX5_read_30 rfl ?_
      exact hK7 _ hJ
  refine zq_aload_n (i := 0) C dX5_read_0 rfl rfl ?_
  refine zq_aload_n (i := 1) C dX5_read_1 rfl rfl ?_
  refine zq_callVv C [zr c1] (wP_sortByFirstDays l hc1 _  hJ) ck_X5_21 iv_X5_sortByFirstDays rfl sx78 rfl rfl rfl rfl rfl rfl dX5_read_2 (fun M1 hJ => ?_)
  refine zq_iconst (x := 0) C dX5_read_5 rfl ik_0 ?_
  refine zq_istore_n (i := 2) (lv' := [some (zr 78), some (zr c1), some (zi 0)]) C dX5_read_6 rfl (Nat.le_of_ble_eq_true rfl) rfl ?_
  exact hl7 _ hJ
set_option maxRecDepth 100000 in
set_option maxHeartbeats 4000000 in
theorem wP_isPushed (l : Launch) (a1 a2 : Int) (M : zM) {Φ : Int → Prop} (hJ : jP_isPushed a1 a2 M Φ) : zMet l yX5_isPushed cX5_isPushed 3 (some .boolean) 0 0 shX [zr 78, zi a1, zi a2] M (zI (fun z M' => M = M' ∧ Φ z)) := by
  refine zq_enter [some (zr 78), some (zi a1), some (zi a2)] (by decide) rfl (Nat.le_of_ble_eq_true rfl) rfl (fun X C => ?_)
  unfold jP_isPushed at hJ
  refine zq_aload_n (i := 0) C dX5_isPushed_0 rfl rfl ?_
  refine zq_getr C fk_X5_15 sx78 rfl dX5_isPushed_1 ?_
  refine zq_iload_n (i := 2) C dX5_isPushed_4 rfl rfl ?_
  obtain ⟨h1, h1', hJ⟩ := hJ
  refine zq_iald C sx80 h1 h1' dX5_isPushed_5 ?_
  refine zq_iload_n (i := 1) C dX5_isPushed_6 rfl rfl ?_
  refine zq_ishr C dX5_isPushed_7 ?_
  refine zq_iconst (x := 1) C dX5_isPushed_8 rfl ik_1 ?_
  refine zq_iand C dX5_isPushed_9 ?_
  refine zq_iconst (x := 1) C dX5_isPushed_10 rfl ik_1 ?_
  refine zq_icmp_ne (tgt := 18) C dX5_isPushed_11 rfl (fun h2 => ?_) (fun h2 => ?_)
  · have hJ := hJ.1 h2
    refine zq_iconst (x := 0) C dX5_isPushed_18 rfl ik_0 ?_
    exact zq_zret C rfl (Or.inl rfl) ⟨_, rfl, rfl, hJ⟩ dX5_isPushed_19
  · have hJ := hJ.2 h2
    refine zq_iconst (x := 1) C dX5_isPushed_14 rfl ik_1 ?_
    refine zq_goto (tgt := 19) C dX5_isPushed_15 rfl ?_
    exact zq_zret C rfl (Or.inr rfl) ⟨_, rfl, rfl, hJ⟩ dX5_isPushed_19
