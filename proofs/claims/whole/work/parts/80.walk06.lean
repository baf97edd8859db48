set_option maxRecDepth 100000 in
set_option maxHeartbeats 4000000 in
theorem wM_hasBars (l : Launch) (a1 : Int) (M : zM) {Φ : Int → Prop} (hJ : jM_hasBars a1 M Φ) : zMet l yX8_hasBars cX8_hasBars 2 (some .boolean) 3 68 shM [zr 0, zi a1] M (zI (fun z M' => M = M' ∧ Φ z)) := by
  refine zq_enter [some (zr 0), some (zi a1)] (by decide) rfl (Nat.le_of_ble_eq_true rfl) rfl (fun X C => ?_)
  unfold jM_hasBars at hJ
  refine zq_aload_n (i := 0) C dX8_hasBars_0 rfl rfl ?_
  refine zq_iload_n (i := 1) C dX8_hasBars_1 rfl rfl ?_
  refine zq_iconst (x := 0) C dX8_hasBars_2 rfl ik_0 ?_
  refine zq_sipush (x := 200) C dX8_hasBars_3 si_200 ik_200 ?_
  refine zq_bipush (x := (-5)) C dX8_hasBars_6 bi_m5 ik_m5 ?_
  refine zq_callVi C [zi a1, zi 0, zi 200, zi (-5)] (wM_within l _ _ _ _ _  hJ) ck_X8_62 iv_X8_within rfl sm0 rfl rfl rfl rfl rfl rfl dX8_hasBars_8 (fun r1 N2 hN2 => ?_)
  obtain ⟨rfl, hJ⟩ := hN2
  refine zq_bipush (x := (-5)) C dX8_hasBars_11 bi_m5 ik_m5 ?_
  refine zq_icmp_eq (tgt := 20) C dX8_hasBars_13 rfl (fun h3 => ?_) (fun h3 => ?_)
  · have hJ := hJ.1 h3
    refine zq_iconst (x := 0) C dX8_hasBars_20 rfl ik_0 ?_
    exact zq_zret C rfl (Or.inl rfl) ⟨_, rfl, rfl, hJ⟩ dX8_hasBars_21
  · have hJ := hJ.2 h3
    refine zq_iconst (x := 1) C dX8_hasBars_16 rfl ik_1 ?_
    refine zq_goto (tgt := 21) C dX8_hasBars_17 rfl ?_
    exact zq_zret C rfl (Or.inr rfl) ⟨_, rfl, rfl, hJ⟩ dX8_hasBars_21
set_option maxRecDepth 100000 in
set_option maxHeartbeats 4000000 in
theorem wM_lanes (l : Launch)  (M : zM) {Φ : Int → Prop} (hJ : jM_lanes  M Φ) : zMet l yX8_lanes cX8_lanes 3 (some .int) 4 89 shM [zr 0] M (zI (fun z M' => M = M' ∧ Φ z)) := by
  refine zq_enter [some (zr 0), none, none] (by decide) rfl (Nat.le_of_ble_eq_true rfl) rfl (fun X C => ?_)
  unfold jM_lanes at hJ
  have hl4 : ∀ (s : Int × Int), zwh (fun K s => jM_lanes_L4  K Φ M (s.1) (s.2)) s → zG X M 4 [some (zr 0), some (zi (s.1)), some (zi (s.2))] [] := by
    refine zwh_sound ?_
    intro K4 s hK4 hJ
    obtain ⟨x1, x2⟩ := s
    have hJ : jM_lanes_L4  K4 Φ M x1 x2 := hJ
    show zG X M 4 [some (zr 0), some (zi x1), some (zi x2)] []
    unfold jM_lanes_L4 at hJ
    refine zq_iload_n (i := 2) C dX8_lanes_4 rfl rfl ?_
    refine zq_bipush (x := 12) C dX8_lanes_5 bi_12 ik_12 ?_
    refine zq_icmp_ge (tgt := 32) C dX8_lanes_7 rfl (fun h10 => ?_) (fun h10 => ?_)
    · have hJ := hJ.1 h10
      refine zq_iload_n (i := 1) C dX8_lanes_32 rfl rfl ?_
      exact zq_iret C rfl ⟨_, rfl, rfl, hJ⟩ dX8_lanes_33
    · have hJ := hJ.2 h10
      refine zq_iload_n (i := 1) C dX8_lanes_10 rfl rfl ?_
      refine zq_aload_n (i := 0) C dX8_lanes_11 rfl rfl ?_
      refine zq_iload_n (i := 2) C dX8_lanes_12 rfl rfl ?_
      refine zq_callVi C [zi x2] (wM_hasBars l _ _  hJ) ck_X8_66 iv_X8_hasBars rfl sm0 rfl rfl rfl rfl rfl rfl dX8_lanes_13 (fun r1 N2 hN2 => ?_)
      obtain ⟨rfl, hJ⟩ := hN2
      refine zq_if_eq (tgt := 23) C dX8_lanes_16 rfl (fun h9 => ?_) (fun h9 => ?_)
      · have hJ := hJ.1 h9
        refine zq_iconst (x := 0) C dX8_lanes_23 rfl ik_0 ?_
        obtain ⟨h3, hJ⟩ := hJ
        refine zq_iadd C dX8_lanes_24 h3 ?_
        refine zq_istoreN_n (i := 1) C (fun v => [some (zr 0), some (zi v), some (zi x2)]) dX8_lanes_25 rfl (Nat.le_of_ble_eq_true rfl) (fun _ => rfl) (fun v1_4 hv1_4 => ?_)
        have hJ := hJ v1_4 hv1_4
        obtain ⟨hv2_5, hJ⟩ := hJ
        refine zq_iinc (y := x2 + 1) (lv' := [some (zr 0), some (zi v1_4), some (zi (x2 + 1))]) C dX8_lanes_26 rfl rfl hv2_5 rfl ?_
        obtain ⟨v2_5, ev2_5⟩ : ∃ z, z = x2 + 1 := ⟨_, rfl⟩
        rw [← ev2_5]
        have hJ := hJ v2_5 ev2_5
        refine zq_goto (tgt := 4) C dX8_lanes_29 rfl ?_
        exact hK4 _ hJ
      · have hJ := hJ.2 h9
        refine zq_iconst (x := 1) C dX8_lanes_19 rfl ik_1 ?_
        refine zq_goto (tgt := 24) C dX8_lanes_20 rfl ?_
        obtain ⟨h6, hJ⟩ := hJ
        refine zq_iadd C dX8_lanes_24 h6 ?_
        refine zq_istoreN_n (i := 1) C (fun v => [some (zr 0), some (zi v), some (zi x2)]) dX8_lanes_25 rfl (Nat.le_of_ble_eq_true rfl) (fun _ => rfl) (fun v1_7 hv1_7 => ?_)
        have hJ := hJ v1_7 hv1_7
        obtain ⟨hv2_8, hJ⟩ := hJ
        refine zq_iinc (y := x2 + 1) (lv' := [some (zr 0), some (zi v1_7), some (zi (x2 + 1))]) C dX8_lanes_26 rfl rfl hv2_8 rfl ?_
        obtain ⟨v2_8, ev2_8⟩ : ∃ z, z = x2 + 1 := ⟨_, rfl⟩
        rw [← ev2_8]
        have hJ := hJ v2_8 ev2_8
        refine zq_goto (tgt := 4) C dX8_lanes_29 rfl ?_
        exact hK4 _ hJ
  refine zq_iconst (x := 0) C dX8_lanes_0 rfl ik_0 ?_
  refine zq_istore_n (i := 1) (lv' := [some (zr 0), some (zi 0), none]) C dX8_lanes_1 rfl (Nat.le_of_ble_eq_true rfl) rfl ?_
  refine zq_iconst (x := 0) C dX8_lanes_2 rfl ik_0 ?_
  refine zq_istore_n (i := 2) (lv' := [some (zr 0), some (zi 0), some (zi 0)]) C dX8_lanes_3 rfl (Nat.le_of_ble_eq_true rfl) rfl ?_
  exact hl4 _ hJ
set_option maxRecDepth 100000 in
set_option maxHeartbeats 4000000 in
theorem wM_lateBy (l : Launch) (a1 : Int) (M : zM) {Φ : Int → Prop} (hJ : jM_lateBy a1 M Φ) : zMet l yX8_lateBy cX8_lateBy 2 (some .int) 3 65 shM [zr 0, zi a1] M (zI (fun z M' => M = M' ∧ Φ z)) := by
  refine zq_enter [some (zr 0), some (zi a1)] (by decide) rfl (Nat.le_of_ble_eq_true rfl) rfl (fun X C => ?_)
  unfold jM_lateBy at hJ
  refine zq_aload_n (i := 0) C dX8_lateBy_0 rfl rfl ?_
  refine zq_aload_n (i := 0) C dX8_lateBy_1 rfl rfl ?_
  refine zq_iload_n (i := 1) C dX8_lateBy_2 rfl rfl ?_
  refine zq_callVi C [zi a1] (wM_from l _ _  hJ) ck_X8_70 iv_X8_from rfl sm0 rfl rfl rfl rfl rfl rfl dX8_lateBy_3 (fun r1 N2 hN2 => ?_)
  obtain ⟨rfl, hJ⟩ := hN2
  refine zq_callVi C [zi r1] (wM_end l _ _  hJ) ck_X8_56 iv_X8_end rfl sm0 rfl rfl rfl rfl rfl rfl dX8_lateBy_6 (fun r3 N4 hN4 => ?_)
  obtain ⟨rfl, hJ⟩ := hN4
  refine zq_aload_n (i := 0) C dX8_lateBy_9 rfl rfl ?_
  refine zq_aload_n (i := 0) C dX8_lateBy_10 rfl rfl ?_
  refine zq_iload_n (i := 1) C dX8_lateBy_11 rfl rfl ?_
  refine zq_callVi C [zi a1] (wM_to l _ _  hJ) ck_X8_73 iv_X8_to rfl sm0 rfl rfl rfl rfl rfl rfl dX8_lateBy_12 (fun r5 N6 hN6 => ?_)
  obtain ⟨rfl, hJ⟩ := hN6
  refine zq_iconst (x := 2) C dX8_lateBy_15 rfl ik_2 ?_
  refine zq_callVi C [zi r5, zi 2] (wM_of l _ _ _  hJ) ck_X8_48 iv_X8_of rfl sm0 rfl rfl rfl rfl rfl rfl dX8_lateBy_16 (fun r7 N8 hN8 => ?_)
  obtain ⟨rfl, hJ⟩ := hN8
  obtain ⟨h9, hJ⟩ := hJ
  refine zq_isub C dX8_lateBy_19 h9 ?_
  refine zq_iconst (x := 0) C dX8_lateBy_20 rfl ik_0 ?_
  refine zq_callSi C [zi (r3 - r7), zi 0] (wM_most l _ _ _  hJ) ck_X8_59 st_X8_most rfl rfl rfl rfl rfl rfl dX8_lateBy_21 (fun r10 N11 hN11 => ?_)
  obtain ⟨rfl, hJ⟩ := hN11
  exact zq_iret C rfl ⟨_, rfl, rfl, hJ⟩ dX8_lateBy_24
set_option maxRecDepth 100000 in
set_option maxHeartbeats 4000000 in
theorem wM_isBetween (l : Launch) (a1 a2 a3 : Int) (M : zM) {Φ : Int → Prop} (hJ : jM_isBetween a1 a2 a3 M Φ) : zMet l yX8_isBetween cX8_isBetween 4 (some .boolean) 1 21 shM [zr 0, zi a1, zi a2, zi a3] M (zI (fun z M' => M = M' ∧ Φ z)) := by
  refine zq_enter [some (zr 0), some (zi a1), some (zi a2), some (zi a3)] (by decide) rfl (Nat.le_of_ble_eq_true rfl) rfl (fun X C => ?_)
  unfold jM_isBetween at hJ
  refine zq_iload_n (i := 1) C dX8_isBetween_0 rfl rfl ?_
  refine zq_iload_n (i := 2) C dX8_isBetween_1 rfl rfl ?_
  refine zq_iload_n (i := 3) C dX8_isBetween_2 rfl rfl ?_
  refine zq_callSi C [zi a2, zi a3] (wM_least l _ _ _  hJ) ck_X8_76 st_X8_least rfl rfl rfl rfl rfl rfl dX8_isBetween_3 (fun r1 N2 hN2 => ?_)
  obtain ⟨rfl, hJ⟩ := hN2
  refine zq_icmp_le (tgt := 22) C dX8_isBetween_6 rfl (fun h6 => ?_) (fun h6 => ?_)
  · have hJ := hJ.1 h6
    refine zq_iconst (x := 0) C dX8_isBetween_22 rfl ik_0 ?_
    exact zq_zret C rfl (Or.inl rfl) ⟨_, rfl, rfl, hJ⟩ dX8_isBetween_23
  · have hJ := hJ.2 h6
    refine zq_iload_n (i := 1) C dX8_isBetween_9 rfl rfl ?_
    refine zq_iload_n (i := 2) C dX8_isBetween_10 rfl rfl ?_
    refine zq_iload_n (i := 3) C dX8_isBetween_11 rfl rfl ?_
    refine zq_callSi C [zi a2, zi a3] (wM_most l _ _ _  hJ) ck_X8_59 st_X8_most rfl rfl rfl rfl rfl rfl dX8_isBetween_12 (fun r3 N4 hN4 => ?_)
    obtain ⟨rfl, hJ⟩ := hN4
    refine zq_icmp_ge (tgt := 22) C dX8_isBetween_15 rfl (fun h5 => ?_) (fun h5 => ?_)
    · have hJ := hJ.1 h5
      refine zq_iconst (x := 0) C dX8_isBetween_22 rfl ik_0 ?_
      exact zq_zret C rfl (Or.inl rfl) ⟨_, rfl, rfl, hJ⟩ dX8_isBetween_23
    · have hJ := hJ.2 h5
      refine zq_iconst (x := 1) C dX8_isBetween_18 rfl ik_1 ?_
      refine zq_goto (tgt := 23) C dX8_isBetween_19 rfl ?_
      exact zq_zret C rfl (Or.inr rfl) ⟨_, rfl, rfl, hJ⟩ dX8_isBetween_23
set_option maxRecDepth 100000 in
set_option maxHeartbeats 4000000 in
theorem wM_reasonFor (l : Launch) (a1 a2 : Int) (M : zM) {Φ : Int → Prop} (hJ : jM_reasonFor a1 a2 M Φ) : zMet l yX8_reasonFor cX8_reasonFor 6 (some .int) 3 68 shM [zr 0, zi a1, zi a2] M (zI (fun z M' => M = M' ∧ Φ z)) := by
  refine zq_enter [some (zr 0), some (zi a1), some (zi a2), none, none, none] (by decide) rfl (Nat.le_of_ble_eq_true rfl) rfl (fun X C => ?_)
  unfold jM_reasonFor at hJ
  have hl94 : ∀ (x3 x4 : Int) (s : Int), zwh (fun K s => jM_reasonFor_L94 a1 a2 K Φ x3 x4 M (s)) s → zG X M 94 [some (zr 0), some (zi a1), some (zi a2), some (zi x3), some (zi x4), some (zi s)] [] := by
    intro x3 x4
    refine zwh_sound ?_
    intro K94 s hK94 hJ
    obtain ⟨x5, rfl⟩ : ∃ z, z = s := ⟨_, rfl⟩
    have hJ : jM_reasonFor_L94 a1 a2 K94 Φ x3 x4 M x5 := hJ
    show zG X M 94 [some (zr 0), some (zi a1), some (zi a2), some (zi x3), some (zi x4), some (zi x5)] []
    unfold jM_reasonFor_L94 at hJ
    refine zq_iload C dX8_reasonFor_94 rfl ?_
    refine zq_aload_n (i := 0) C dX8_reasonFor_96 rfl rfl ?_
    refine zq_getr C fk_X8_7 sm0 rfl dX8_reasonFor_97 ?_
    refine zq_iconst (x := 0) C dX8_reasonFor_100 rfl ik_0 ?_
    refine zq_iald C sm1 (by decide) (by decide) dX8_reasonFor_101 ?_
    refine zq_icmp_ge (tgt := 163) C dX8_reasonFor_102 rfl (fun h44 => ?_) (fun h44 => ?_)
    · have hJ := hJ.1 h44
      refine zq_iconst (x := 0) C dX8_reasonFor_163 rfl ik_0 ?_
      exact zq_iret C rfl ⟨_, rfl, rfl, hJ⟩ dX8_reasonFor_164
    · have hJ := hJ.2 h44
      refine zq_aload_n (i := 0) C dX8_reasonFor_105 rfl rfl ?_
      refine zq_aload_n (i := 0) C dX8_reasonFor_106 rfl rfl ?_
      refine zq_iload C dX8_reasonFor_107 rfl ?_
      refine zq_iconst (x := 1) C dX8_reasonFor_109 rfl ik_1 ?_
      refine zq_callVi C [zi x5, zi 1] (wM_of l _ _ _  hJ) ck_X8_48 iv_X8_of rfl sm0 rfl rfl rfl rfl rfl rfl dX8_reasonFor_110 (fun r25 N26 hN26 => ?_)
      obtain ⟨rfl, hJ⟩ := hN26
      refine zq_aload_n (i := 0) C dX8_reasonFor_113 rfl rfl ?_
      refine zq_iload_n (i := 3) C dX8_reasonFor_114 rfl rfl ?_
      refine zq_iconst (x := 1) C dX8_reasonFor_115 rfl ik_1 ?_
      refine zq_callVi C [zi x3, zi 1] (wM_of l _ _ _  hJ) ck_X8_48 iv_X8_of rfl sm0 rfl rfl rfl rfl rfl rfl dX8_reasonFor_116 (fun r27 N28 hN28 => ?_)
      obtain ⟨rfl, hJ⟩ := hN28
      refine zq_aload_n (i := 0) C dX8_reasonFor_119 rfl rfl ?_
      refine zq_iload C dX8_reasonFor_120 rfl ?_
      refine zq_iconst (x := 1) C dX8_reasonFor_122 rfl ik_1 ?_
      refine zq_callVi C [zi x4, zi 1] (wM_of l _ _ _  hJ) ck_X8_48 iv_X8_of rfl sm0 rfl rfl rfl rfl rfl rfl dX8_reasonFor_123 (fun r29 N30 hN30 => ?_)
      obtain ⟨rfl, hJ⟩ := hN30
      refine zq_callVi C [zi r25, zi r27, zi r29] (wM_isBetween l _ _ _ _  hJ) ck_X8_83 iv_X8_isBetween rfl sm0 rfl rfl rfl rfl rfl rfl dX8_reasonFor_126 (fun r31 N32 hN32 => ?_)
      obtain ⟨rfl, hJ⟩ := hN32
      refine zq_if_eq (tgt := 157) C dX8_reasonFor_129 rfl (fun h43 => ?_) (fun h43 => ?_)
      · have hJ := hJ.1 h43
        obtain ⟨hv5_33, hJ⟩ := hJ
        refine zq_iinc (y := x5 + 1) (lv' := [some (zr 0), some (zi a1), some (zi a2), some (zi x3), some (zi x4), some (zi (x5 + 1))]) C dX8_reasonFor_157 rfl rfl hv5_33 rfl ?_
        obtain ⟨v5_33, ev5_33⟩ : ∃ z, z = x5 + 1 := ⟨_, rfl⟩
        rw [← ev5_33]
        have hJ := hJ v5_33 ev5_33
        refine zq_goto (tgt := 94) C dX8_reasonFor_160 rfl ?_
        exact hK94 _ hJ
      · have hJ := hJ.2 h43
        refine zq_aload_n (i := 0) C dX8_reasonFor_132 rfl rfl ?_
        refine zq_iload C dX8_reasonFor_133 rfl ?_
        refine zq_iconst (x := 2) C dX8_reasonFor_135 rfl ik_2 ?_
        refine zq_callVi C [zi x5, zi 2] (wM_of l _ _ _  hJ) ck_X8_48 iv_X8_of rfl sm0 rfl rfl rfl rfl rfl rfl dX8_reasonFor_136 (fun r34 N35 hN35 => ?_)
        obtain ⟨rfl, hJ⟩ := hN35
        refine zq_iload_n (i := 2) C dX8_reasonFor_139 rfl rfl ?_
        refine zq_iconst (x := 1) C dX8_reasonFor_140 rfl ik_1 ?_
        obtain ⟨h36, hJ⟩ := hJ
        refine zq_isub C dX8_reasonFor_141 h36 ?_
        refine zq_icmp_gt (tgt := 157) C dX8_reasonFor_142 rfl (fun h42 => ?_) (fun h42 => ?_)
        · have hJ := hJ.1 h42
          obtain ⟨hv5_37, hJ⟩ := hJ
          refine zq_iinc (y := x5 + 1) (lv' := [some (zr 0), some (zi a1), some (zi a2), some (zi x3), some (zi x4), some (zi (x5 + 1))]) C dX8_reasonFor_157 rfl rfl hv5_37 rfl ?_
          obtain ⟨v5_37, ev5_37⟩ : ∃ z, z = x5 + 1 := ⟨_, rfl⟩
          rw [← ev5_37]
          have hJ := hJ v5_37 ev5_37
          refine zq_goto (tgt := 94) C dX8_reasonFor_160 rfl ?_
          exact hK94 _ hJ
        · have hJ := hJ.2 h42
          refine zq_aload_n (i := 0) C dX8_reasonFor_145 rfl rfl ?_
          refine zq_iload C dX8_reasonFor_146 rfl ?_
          refine zq_callVi C [zi x5] (wM_end l _ _  hJ) ck_X8_56 iv_X8_end rfl sm0 rfl rfl rfl rfl rfl rfl dX8_reasonFor_148 (fun r38 N39 hN39 => ?_)
          obtain ⟨rfl, hJ⟩ := hN39
          refine zq_iload_n (i := 2) C dX8_reasonFor_151 rfl rfl ?_
          refine zq_icmp_le (tgt := 157) C dX8_reasonFor_152 rfl (fun h41 => ?_) (fun h41 => ?_)
          · have hJ := hJ.1 h41
            obtain ⟨hv5_40, hJ⟩ := hJ
            refine zq_iinc (y := x5 + 1) (lv' := [some (zr 0), some (zi a1), some (zi a2), some (zi x3), some (zi x4), some (zi (x5 + 1))]) C dX8_reasonFor_157 rfl rfl hv5_40 rfl ?_
            obtain ⟨v5_40, ev5_40⟩ : ∃ z, z = x5 + 1 := ⟨_, rfl⟩
            rw [← ev5_40]
            have hJ := hJ v5_40 ev5_40
            refine zq_goto (tgt := 94) C dX8_reasonFor_160 rfl ?_
            exact hK94 _ hJ
          · have hJ := hJ.2 h41
            refine zq_iconst (x := 4) C dX8_reasonFor_155 rfl ik_4 ?_
            exact zq_iret C rfl ⟨_, rfl, rfl, hJ⟩ dX8_reasonFor_156
  refine zq_aload_n (i := 0) C dX8_reasonFor_0 rfl rfl ?_
  refine zq_iload_n (i := 1) C dX8_reasonFor_1 rfl rfl ?_
  refine zq_callVi C [zi a1] (wM_from l _ _  hJ) ck_X8_70 iv_X8_from rfl sm0 rfl rfl rfl rfl rfl rfl dX8_reasonFor_2 (fun r1 N2 hN2 => ?_)
  obtain ⟨rfl, hJ⟩ := hN2
  refine zq_istore_n (i := 3) (lv' := [some (zr 0), some (zi a1), some (zi a2), some (zi r1), none, none]) C dX8_reasonFor_5 rfl (Nat.le_of_ble_eq_true rfl) rfl ?_
  refine zq_aload_n (i := 0) C dX8_reasonFor_6 rfl rfl ?_
  refine zq_iload_n (i := 1) C dX8_reasonFor_7 rfl rfl ?_
  refine zq_callVi C [zi a1] (wM_to l _ _  hJ) ck_X8_73 iv_X8_to rfl sm0 rfl rfl rfl rfl rfl rfl dX8_reasonFor_8 (fun r3 N4 hN4 => ?_)
  obtain ⟨rfl, hJ⟩ := hN4
  refine zq_istore (lv' := [some (zr 0), some (zi a1), some (zi a2), some (zi r1), some (zi r3), none]) C dX8_reasonFor_11 (Nat.le_of_ble_eq_true rfl) rfl ?_
  refine zq_iload_n (i := 2) C dX8_reasonFor_13 rfl rfl ?_
  refine zq_aload_n (i := 0) C dX8_reasonFor_14 rfl rfl ?_
  refine zq_iload_n (i := 3) C dX8_reasonFor_15 rfl rfl ?_
  refine zq_callVi C [zi r1] (wM_end l _ _  hJ) ck_X8_56 iv_X8_end rfl sm0 rfl rfl rfl rfl rfl rfl dX8_reasonFor_16 (fun r5 N6 hN6 => ?_)
  obtain ⟨rfl, hJ⟩ := hN6
  refine zq_aload_n (i := 0) C dX8_reasonFor_19 rfl rfl ?_
  refine zq_iload C dX8_reasonFor_20 rfl ?_
  refine zq_iconst (x := 2) C dX8_reasonFor_22 rfl ik_2 ?_
  refine zq_callVi C [zi r3, zi 2] (wM_of l _ _ _  hJ) ck_X8_48 iv_X8_of rfl sm0 rfl rfl rfl rfl rfl rfl dX8_reasonFor_23 (fun r7 N8 hN8 => ?_)
  obtain ⟨rfl, hJ⟩ := hN8
  refine zq_callSi C [zi a2, zi r5, zi r7] (wM_in l _ _ _ _  hJ) ck_X8_79 st_X8_in rfl rfl rfl rfl rfl rfl dX8_reasonFor_26 (fun r9 N10 hN10 => ?_)
  obtain ⟨rfl, hJ⟩ := hN10
  refine zq_if_ne (tgt := 34) C dX8_reasonFor_29 rfl (fun h47 => ?_) (fun h47 => ?_)
  · have hJ := hJ.1 h47
    refine zq_aload_n (i := 0) C dX8_reasonFor_34 rfl rfl ?_
    refine zq_aload_n (i := 0) C dX8_reasonFor_35 rfl rfl ?_
    refine zq_iload_n (i := 3) C dX8_reasonFor_36 rfl rfl ?_
    refine zq_iconst (x := 1) C dX8_reasonFor_37 rfl ik_1 ?_
    refine zq_callVi C [zi r1, zi 1] (wM_of l _ _ _  hJ) ck_X8_48 iv_X8_of rfl sm0 rfl rfl rfl rfl rfl rfl dX8_reasonFor_38 (fun r11 N12 hN12 => ?_)
    obtain ⟨rfl, hJ⟩ := hN12
    refine zq_aload_n (i := 0) C dX8_reasonFor_41 rfl rfl ?_
    refine zq_iload_n (i := 3) C dX8_reasonFor_42 rfl rfl ?_
    refine zq_callVi C [zi r1] (wM_end l _ _  hJ) ck_X8_56 iv_X8_end rfl sm0 rfl rfl rfl rfl rfl rfl dX8_reasonFor_43 (fun r13 N14 hN14 => ?_)
    obtain ⟨rfl, hJ⟩ := hN14
    refine zq_iload_n (i := 2) C dX8_reasonFor_46 rfl rfl ?_
    refine zq_iconst (x := 1) C dX8_reasonFor_47 rfl ik_1 ?_
    obtain ⟨h15, hJ⟩ := hJ
    refine zq_isub C dX8_reasonFor_48 h15 ?_
    refine zq_bipush (x := (-5)) C dX8_reasonFor_49 bi_m5 ik_m5 ?_
    refine zq_callVi C [zi r11, zi r13, zi (a2 - 1), zi (-5)] (wM_within l _ _ _ _ _  hJ) ck_X8_62 iv_X8_within rfl sm0 rfl rfl rfl rfl rfl rfl dX8_reasonFor_51 (fun r16 N17 hN17 => ?_)
    obtain ⟨rfl, hJ⟩ := hN17
    refine zq_bipush (x := (-5)) C dX8_reasonFor_54 bi_m5 ik_m5 ?_
    refine zq_icmp_eq (tgt := 61) C dX8_reasonFor_56 rfl (fun h46 => ?_) (fun h46 => ?_)
    · have hJ := hJ.1 h46
      refine zq_aload_n (i := 0) C dX8_reasonFor_61 rfl rfl ?_
      refine zq_aload_n (i := 0) C dX8_reasonFor_62 rfl rfl ?_
      refine zq_iload C dX8_reasonFor_63 rfl ?_
      refine zq_iconst (x := 1) C dX8_reasonFor_65 rfl ik_1 ?_
      refine zq_callVi C [zi r3, zi 1] (wM_of l _ _ _  hJ) ck_X8_48 iv_X8_of rfl sm0 rfl rfl rfl rfl rfl rfl dX8_reasonFor_66 (fun r18 N19 hN19 => ?_)
      obtain ⟨rfl, hJ⟩ := hN19
      refine zq_iload_n (i := 2) C dX8_reasonFor_69 rfl rfl ?_
      refine zq_aload_n (i := 0) C dX8_reasonFor_70 rfl rfl ?_
      refine zq_iload C dX8_reasonFor_71 rfl ?_
      refine zq_iconst (x := 2) C dX8_reasonFor_73 rfl ik_2 ?_
      refine zq_callVi C [zi r3, zi 2] (wM_of l _ _ _  hJ) ck_X8_48 iv_X8_of rfl sm0 rfl rfl rfl rfl rfl rfl dX8_reasonFor_74 (fun r20 N21 hN21 => ?_)
      obtain ⟨rfl, hJ⟩ := hN21
      refine zq_iconst (x := 1) C dX8_reasonFor_77 rfl ik_1 ?_
      obtain ⟨h22, hJ⟩ := hJ
      refine zq_isub C dX8_reasonFor_78 h22 ?_
      refine zq_bipush (x := (-5)) C dX8_reasonFor_79 bi_m5 ik_m5 ?_
      refine zq_callVi C [zi r18, zi a2, zi (r20 - 1), zi (-5)] (wM_within l _ _ _ _ _  hJ) ck_X8_62 iv_X8_within rfl sm0 rfl rfl rfl rfl rfl rfl dX8_reasonFor_81 (fun r23 N24 hN24 => ?_)
      obtain ⟨rfl, hJ⟩ := hN24
      refine zq_bipush (x := (-5)) C dX8_reasonFor_84 bi_m5 ik_m5 ?_
      refine zq_icmp_eq (tgt := 91) C dX8_reasonFor_86 rfl (fun h45 => ?_) (fun h45 => ?_)
      · have hJ := hJ.1 h45
        refine zq_iconst (x := 0) C dX8_reasonFor_91 rfl ik_0 ?_
        refine zq_istore (lv' := [some (zr 0), some (zi a1), some (zi a2), some (zi r1), some (zi r3), some (zi 0)]) C dX8_reasonFor_92 (Nat.le_of_ble_eq_true rfl) rfl ?_
        exact hl94 _ _ _ hJ
      · have hJ := hJ.2 h45
        refine zq_iconst (x := 3) C dX8_reasonFor_89 rfl ik_3 ?_
        exact zq_iret C rfl ⟨_, rfl, rfl, hJ⟩ dX8_reasonFor_90
    · have hJ := hJ.2 h46
      refine zq_iconst (x := 2) C dX8_reasonFor_59 rfl ik_2 ?_
      exact zq_iret C rfl ⟨_, rfl, rfl, hJ⟩ dX8_reasonFor_60
  · have hJ := hJ.2 h47
    refine zq_iconst (x := 1) C dX8_reasonFor_32 rfl ik_1 ?_
    exact zq_iret C rfl ⟨_, rfl, rfl, hJ⟩ dX8_reasonFor_33
set_option maxRecDepth 100000 in
set_option maxHeartbeats 4000000 in
theorem wM_freeBends (l : Launch) (a1 : Int) (M : zM) {Φ : Int → Prop} (hJ : jM_freeBends a1 M Φ) : zMet l yX8_freeBends cX8_freeBends 4 (some .int) 4 93 shM [zr 0, zi a1] M (zI (fun z M' => M = M' ∧ Φ z)) := by
  refine zq_enter [some (zr 0), some (zi a1), none, none] (by decide) rfl (Nat.le_of_ble_eq_true rfl) rfl (fun X C => ?_)
  unfold jM_freeBends at hJ
  have hl12 : ∀ (s : Int × Int), zwh (fun K s => jM_freeBends_L12 a1 K Φ M (s.1) (s.2)) s → zG X M 12 [some (zr 0), some (zi a1), some (zi (s.1)), some (zi (s.2))] [] := by
    refine zwh_sound ?_
    intro K12 s hK12 hJ
    obtain ⟨x2, x3⟩ := s
    have hJ : jM_freeBends_L12 a1 K12 Φ M x2 x3 := hJ
    show zG X M 12 [some (zr 0), some (zi a1), some (zi x2), some (zi x3)] []
    unfold jM_freeBends_L12 at hJ
    refine zq_iload_n (i := 3) C dX8_freeBends_12 rfl rfl ?_
    refine zq_aload_n (i := 0) C dX8_freeBends_13 rfl rfl ?_
    refine zq_aload_n (i := 0) C dX8_freeBends_14 rfl rfl ?_
    refine zq_iload_n (i := 1) C dX8_freeBends_15 rfl rfl ?_
    refine zq_callVi C [zi a1] (wM_to l _ _  hJ) ck_X8_73 iv_X8_to rfl sm0 rfl rfl rfl rfl rfl rfl dX8_freeBends_16 (fun r5 N6 hN6 => ?_)
    obtain ⟨rfl, hJ⟩ := hN6
    refine zq_iconst (x := 2) C dX8_freeBends_19 rfl ik_2 ?_
    refine zq_callVi C [zi r5, zi 2] (wM_of l _ _ _  hJ) ck_X8_48 iv_X8_of rfl sm0 rfl rfl rfl rfl rfl rfl dX8_freeBends_20 (fun r7 N8 hN8 => ?_)
    obtain ⟨rfl, hJ⟩ := hN8
    refine zq_icmp_gt (tgt := 49) C dX8_freeBends_23 rfl (fun h18 => ?_) (fun h18 => ?_)
    · have hJ := hJ.1 h18
      refine zq_iload_n (i := 2) C dX8_freeBends_49 rfl rfl ?_
      exact zq_iret C rfl ⟨_, rfl, rfl, hJ⟩ dX8_freeBends_50
    · have hJ := hJ.2 h18
      refine zq_iload_n (i := 2) C dX8_freeBends_26 rfl rfl ?_
      refine zq_aload_n (i := 0) C dX8_freeBends_27 rfl rfl ?_
      refine zq_iload_n (i := 1) C dX8_freeBends_28 rfl rfl ?_
      refine zq_iload_n (i := 3) C dX8_freeBends_29 rfl rfl ?_
      refine zq_callVi C [zi a1, zi x3] (wM_reasonFor l _ _ _  hJ) ck_X8_86 iv_X8_reasonFor rfl sm0 rfl rfl rfl rfl rfl rfl dX8_freeBends_30 (fun r9 N10 hN10 => ?_)
      obtain ⟨rfl, hJ⟩ := hN10
      refine zq_if_ne (tgt := 40) C dX8_freeBends_33 rfl (fun h17 => ?_) (fun h17 => ?_)
      · have hJ := hJ.1 h17
        refine zq_iconst (x := 0) C dX8_freeBends_40 rfl ik_0 ?_
        obtain ⟨h11, hJ⟩ := hJ
        refine zq_iadd C dX8_freeBends_41 h11 ?_
        refine zq_istoreN_n (i := 2) C (fun v => [some (zr 0), some (zi a1), some (zi v), some (zi x3)]) dX8_freeBends_42 rfl (Nat.le_of_ble_eq_true rfl) (fun _ => rfl) (fun v2_12 hv2_12 => ?_)
        have hJ := hJ v2_12 hv2_12
        obtain ⟨hv3_13, hJ⟩ := hJ
        refine zq_iinc (y := x3 + 1) (lv' := [some (zr 0), some (zi a1), some (zi v2_12), some (zi (x3 + 1))]) C dX8_freeBends_43 rfl rfl hv3_13 rfl ?_
        obtain ⟨v3_13, ev3_13⟩ : ∃ z, z = x3 + 1 := ⟨_, rfl⟩
        rw [← ev3_13]
        have hJ := hJ v3_13 ev3_13
        refine zq_goto (tgt := 12) C dX8_freeBends_46 rfl ?_
        exact hK12 _ hJ
      · have hJ := hJ.2 h17
        refine zq_iconst (x := 1) C dX8_freeBends_36 rfl ik_1 ?_
        refine zq_goto (tgt := 41) C dX8_freeBends_37 rfl ?_
        obtain ⟨h14, hJ⟩ := hJ
        refine zq_iadd C dX8_freeBends_41 h14 ?_
        refine zq_istoreN_n (i := 2) C (fun v => [some (zr 0), some (zi a1), some (zi v), some (zi x3)]) dX8_freeBends_42 rfl (Nat.le_of_ble_eq_true rfl) (fun _ => rfl) (fun v2_15 hv2_15 => ?_)
        have hJ := hJ v2_15 hv2_15
        obtain ⟨hv3_16, hJ⟩ := hJ
        refine zq_iinc (y := x3 + 1) (lv' := [some (zr 0), some (zi a1), some (zi v2_15), some (zi (x3 + 1))]) C dX8_freeBends_43 rfl rfl hv3_16 rfl ?_
        obtain ⟨v3_16, ev3_16⟩ : ∃ z, z = x3 + 1 := ⟨_, rfl⟩
        rw [← ev3_16]
        have hJ := hJ v3_16 ev3_16
        refine zq_goto (tgt := 12) C dX8_freeBends_46 rfl ?_
        exact hK12 _ hJ
  refine zq_iconst (x := 0) C dX8_freeBends_0 rfl ik_0 ?_
  refine zq_istore_n (i := 2) (lv' := [some (zr 0), some (zi a1), some (zi 0), none]) C dX8_freeBends_1 rfl (Nat.le_of_ble_eq_true rfl) rfl ?_
  refine zq_aload_n (i := 0) C dX8_freeBends_2 rfl rfl ?_
  refine zq_aload_n (i := 0) C dX8_freeBends_3 rfl rfl ?_
  refine zq_iload_n (i := 1) C dX8_freeBends_4 rfl rfl ?_
  refine zq_callVi C [zi a1] (wM_from l _ _  hJ) ck_X8_70 iv_X8_from rfl sm0 rfl rfl rfl rfl rfl rfl dX8_freeBends_5 (fun r1 N2 hN2 => ?_)
  obtain ⟨rfl, hJ⟩ := hN2
  refine zq_callVi C [zi r1] (wM_end l _ _  hJ) ck_X8_56 iv_X8_end rfl sm0 rfl rfl rfl rfl rfl rfl dX8_freeBends_8 (fun r3 N4 hN4 => ?_)
  obtain ⟨rfl, hJ⟩ := hN4
  refine zq_istore_n (i := 3) (lv' := [some (zr 0), some (zi a1), some (zi 0), some (zi r3)]) C dX8_freeBends_11 rfl (Nat.le_of_ble_eq_true rfl) rfl ?_
  exact hl12 _ hJ
set_option maxRecDepth 100000 in
set_option maxHeartbeats 4000000 in
theorem wM_worth (l : Launch) (a1 a2 : Int) (M : zM) {Φ : Int → Prop} (hJ : jM_worth a1 a2 M Φ) : zMet l yX8_worth cX8_worth 5 (some .int) 3 65 shM [zr 0, zi a1, zi a2] M (zI (fun z M' => M = M' ∧ Φ z)) := by
  refine zq_enter [some (zr 0), some (zi a1), some (zi a2), none, none] (by decide) rfl (Nat.le_of_ble_eq_true rfl) rfl (fun X C => ?_)
  unfold jM_worth at hJ
  refine zq_iload_n (i := 2) C dX8_worth_0 rfl rfl ?_
  refine zq_aload_n (i := 0) C dX8_worth_1 rfl rfl ?_
  refine zq_aload_n (i := 0) C dX8_worth_2 rfl rfl ?_
  refine zq_iload_n (i := 1) C dX8_worth_3 rfl rfl ?_
  refine zq_callVi C [zi a1] (wM_from l _ _  hJ) ck_X8_70 iv_X8_from rfl sm0 rfl rfl rfl rfl rfl rfl dX8_worth_4 (fun r1 N2 hN2 => ?_)
  obtain ⟨rfl, hJ⟩ := hN2
  refine zq_callVi C [zi r1] (wM_end l _ _  hJ) ck_X8_56 iv_X8_end rfl sm0 rfl rfl rfl rfl rfl rfl dX8_worth_7 (fun r3 N4 hN4 => ?_)
  obtain ⟨rfl, hJ⟩ := hN4
  obtain ⟨h5, hJ⟩ := hJ
  refine zq_isub C dX8_worth_10 h5 ?_
  refine zq_istoreN_n (i := 3) C (fun v => [some (zr 0), some (zi a1), some (zi a2), some (zi v), none]) dX8_worth_11 rfl (Nat.le_of_ble_eq_true rfl) (fun _ => rfl) (fun v3_6 hv3_6 => ?_)
  have hJ := hJ v3_6 hv3_6
  refine zq_aload_n (i := 0) C dX8_worth_12 rfl rfl ?_
  refine zq_aload_n (i := 0) C dX8_worth_13 rfl rfl ?_
  refine zq_iload_n (i := 1) C dX8_worth_14 rfl rfl ?_
  refine zq_callVi C [zi a1] (wM_to l _ _  hJ) ck_X8_73 iv_X8_to rfl sm0 rfl rfl rfl rfl rfl rfl dX8_worth_15 (fun r7 N8 hN8 => ?_)
  obtain ⟨rfl, hJ⟩ := hN8
  refine zq_iconst (x := 2) C dX8_worth_18 rfl ik_2 ?_
  refine zq_callVi C [zi r7, zi 2] (wM_of l _ _ _  hJ) ck_X8_48 iv_X8_of rfl sm0 rfl rfl rfl rfl rfl rfl dX8_worth_19 (fun r9 N10 hN10 => ?_)
  obtain ⟨rfl, hJ⟩ := hN10
  refine zq_iload_n (i := 2) C dX8_worth_22 rfl rfl ?_
  obtain ⟨h11, hJ⟩ := hJ
  refine zq_isub C dX8_worth_23 h11 ?_
  refine zq_istoreN C (fun v => [some (zr 0), some (zi a1), some (zi a2), some (zi v3_6), some (zi v)]) dX8_worth_24 (Nat.le_of_ble_eq_true rfl) (fun _ => rfl) (fun v4_12 hv4_12 => ?_)
  have hJ := hJ v4_12 hv4_12
  refine zq_aload_n (i := 0) C dX8_worth_26 rfl rfl ?_
  refine zq_getr C fk_X8_7 sm0 rfl dX8_worth_27 ?_
  refine zq_sipush (x := 442) C dX8_worth_30 si_442 ik_442 ?_
  refine zq_iald C sm1 (by decide) (by decide) dX8_worth_33 ?_
  refine zq_if_ne (tgt := 41) C dX8_worth_34 rfl (fun h17 => ?_) (fun h17 => ?_)
  · have hJ := hJ.1 h17
    refine zq_aload_n (i := 0) C dX8_worth_41 rfl rfl ?_
    refine zq_getr C fk_X8_7 sm0 rfl dX8_worth_42 ?_
    refine zq_sipush (x := 442) C dX8_worth_45 si_442 ik_442 ?_
    refine zq_iald C sm1 (by decide) (by decide) dX8_worth_48 ?_
    refine zq_iconst (x := 1) C dX8_worth_49 rfl ik_1 ?_
    refine zq_icmp_ne (tgt := 58) C dX8_worth_50 rfl (fun h16 => ?_) (fun h16 => ?_)
    · have hJ := hJ.1 h16
      refine zq_iload_n (i := 3) C dX8_worth_58 rfl rfl ?_
      refine zq_iload C dX8_worth_59 rfl ?_
      refine zq_icmp_ge (tgt := 71) C dX8_worth_61 rfl (fun h15 => ?_) (fun h15 => ?_)
      · have hJ := hJ.1 h15
        refine zq_iload_n (i := 3) C dX8_worth_71 rfl rfl ?_
        refine zq_iload C dX8_worth_72 rfl ?_
        obtain ⟨h13, hJ⟩ := hJ
        refine zq_isub C dX8_worth_74 h13 ?_
        exact zq_iret C rfl ⟨_, rfl, rfl, hJ⟩ dX8_worth_75
      · have hJ := hJ.2 h15
        refine zq_iload C dX8_worth_64 rfl ?_
        refine zq_iload_n (i := 3) C dX8_worth_66 rfl rfl ?_
        obtain ⟨h14, hJ⟩ := hJ
        refine zq_isub C dX8_worth_67 h14 ?_
        refine zq_goto (tgt := 75) C dX8_worth_68 rfl ?_
        exact zq_iret C rfl ⟨_, rfl, rfl, hJ⟩ dX8_worth_75
    · have hJ := hJ.2 h16
      refine zq_iload C dX8_worth_53 rfl ?_
      refine zq_goto (tgt := 75) C dX8_worth_55 rfl ?_
      exact zq_iret C rfl ⟨_, rfl, rfl, hJ⟩ dX8_worth_75
  · have hJ := hJ.2 h17
    refine zq_iload_n (i := 3) C dX8_worth_37 rfl rfl ?_
    refine zq_goto (tgt := 75) C dX8_worth_38 rfl ?_
    exact zq_iret C rfl ⟨_, rfl, rfl, hJ⟩ dX8_worth_75
set_option maxRecDepth 100000 in
set_option maxHeartbeats 4000000 in
theorem wM_bend (l : Launch) (a1 : Int) (M : zM) {Φ : Int → Prop} (hJ : jM_bend a1 M Φ) : zMet l yX8_bend cX8_bend 6 (some .int) 4 93 shM [zr 0, zi a1] M (zI (fun z M' => M = M' ∧ Φ z)) := by
  refine zq_enter [some (zr 0), some (zi a1), none, none, none, none] (by decide) rfl (Nat.le_of_ble_eq_true rfl) rfl (fun X C => ?_)
  unfold jM_bend at hJ
  have hl25 : ∀ (x3 : Int) (s : Int × Int), zwh (fun K s => jM_bend_L25 a1 K Φ x3 M (s.1) (s.2)) s → zG X M 25 [some (zr 0), some (zi a1), some (zi (s.1)), some (zi x3), some (zi (s.2)), none] [] := by
    intro x3
    refine zwh_sound ?_
    intro K25 s hK25 hJ
    obtain ⟨x2, x4⟩ := s
    have hJ : jM_bend_L25 a1 K25 Φ x3 M x2 x4 := hJ
    show zG X M 25 [some (zr 0), some (zi a1), some (zi x2), some (zi x3), some (zi x4), none] []
    unfold jM_bend_L25 at hJ
    have hj68 : ∀ (x2 x4 s0 : Int), jM_bend_J68 a1 K25 Φ x2 x3 x4 s0 M → zG X M 68 [some (zr 0), some (zi a1), some (zi x2), some (zi x3), some (zi x4), none] [zi s0] := by
      intro x2 x4 s0 hJ
      unfold jM_bend_J68 at hJ
      refine zq_istore (lv' := [some (zr 0), some (zi a1), some (zi x2), some (zi x3), some (zi x4), some (zi s0)]) C dX8_bend_68 (Nat.le_of_ble_eq_true rfl) rfl ?_
      refine zq_iload C dX8_bend_70 rfl ?_
      refine zq_if_eq (tgt := 80) C dX8_bend_72 rfl (fun h13 => ?_) (fun h13 => ?_)
      · have hJ := hJ.1 h13
        refine zq_iload_n (i := 2) C dX8_bend_80 rfl rfl ?_
        refine zq_istore_n (i := 2) (lv' := [some (zr 0), some (zi a1), some (zi x2), some (zi x3), some (zi x4), some (zi s0)]) C dX8_bend_81 rfl (Nat.le_of_ble_eq_true rfl) rfl ?_
        obtain ⟨hv4_11, hJ⟩ := hJ
        refine zq_iinc (y := x4 + 1) (lv' := [some (zr 0), some (zi a1), some (zi x2), some (zi x3), some (zi (x4 + 1)), some (zi s0)]) C dX8_bend_82 rfl rfl hv4_11 rfl ?_
        obtain ⟨v4_11, ev4_11⟩ : ∃ z, z = x4 + 1 := ⟨_, rfl⟩
        rw [← ev4_11]
        have hJ := hJ v4_11 ev4_11
        refine zq_goto (tgt := 25) C dX8_bend_85 rfl ?_
        refine zq_weak [some (zr 0), some (zi a1), some (zi x2), some (zi x3), some (zi v4_11), none] ⟨Or.inr rfl, Or.inr rfl, Or.inr rfl, Or.inr rfl, Or.inr rfl, Or.inl rfl, trivial⟩ ?_
        exact hK25 _ hJ
      · have hJ := hJ.2 h13
        refine zq_iload C dX8_bend_75 rfl ?_
        refine zq_goto (tgt := 81) C dX8_bend_77 rfl ?_
        refine zq_istore_n (i := 2) (lv' := [some (zr 0), some (zi a1), some (zi x4), some (zi x3), some (zi x4), some (zi s0)]) C dX8_bend_81 rfl (Nat.le_of_ble_eq_true rfl) rfl ?_
        obtain ⟨hv4_12, hJ⟩ := hJ
        refine zq_iinc (y := x4 + 1) (lv' := [some (zr 0), some (zi a1), some (zi x4), some (zi x3), some (zi (x4 + 1)), some (zi s0)]) C dX8_bend_82 rfl rfl hv4_12 rfl ?_
        obtain ⟨v4_12, ev4_12⟩ : ∃ z, z = x4 + 1 := ⟨_, rfl⟩
        rw [← ev4_12]
        have hJ := hJ v4_12 ev4_12
        refine zq_goto (tgt := 25) C dX8_bend_85 rfl ?_
        refine zq_weak [some (zr 0), some (zi a1), some (zi x4), some (zi x3), some (zi v4_12), none] ⟨Or.inr rfl, Or.inr rfl, Or.inr rfl, Or.inr rfl, Or.inr rfl, Or.inl rfl, trivial⟩ ?_
        exact hK25 _ hJ
    have hj67 : ∀ (x2 x4 : Int), jM_bend_J67 a1 K25 Φ x2 x3 x4 M → zG X M 67 [some (zr 0), some (zi a1), some (zi x2), some (zi x3), some (zi x4), none] [] := by
      intro x2 x4 hJ
      unfold jM_bend_J67 at hJ
      refine zq_iconst (x := 0) C dX8_bend_67 rfl ik_0 ?_
      exact hj68 _ _ _ hJ
    have hj63 : ∀ (x2 x4 : Int), jM_bend_J63 a1 K25 Φ x2 x3 x4 M → zG X M 63 [some (zr 0), some (zi a1), some (zi x2), some (zi x3), some (zi x4), none] [] := by
      intro x2 x4 hJ
      unfold jM_bend_J63 at hJ
      refine zq_iconst (x := 1) C dX8_bend_63 rfl ik_1 ?_
      refine zq_goto (tgt := 68) C dX8_bend_64 rfl ?_
      exact hj68 _ _ _ hJ
    refine zq_iload C dX8_bend_25 rfl ?_
    refine zq_iload_n (i := 3) C dX8_bend_27 rfl rfl ?_
    refine zq_icmp_gt (tgt := 88) C dX8_bend_28 rfl (fun h21 => ?_) (fun h21 => ?_)
    · have hJ := hJ.1 h21
      refine zq_iload_n (i := 2) C dX8_bend_88 rfl rfl ?_
      exact zq_iret C rfl ⟨_, rfl, rfl, hJ⟩ dX8_bend_89
    · have hJ := hJ.2 h21
      refine zq_aload_n (i := 0) C dX8_bend_31 rfl rfl ?_
      refine zq_iload_n (i := 1) C dX8_bend_32 rfl rfl ?_
      refine zq_iload C dX8_bend_33 rfl ?_
      refine zq_callVi C [zi a1, zi x4] (wM_reasonFor l _ _ _  hJ) ck_X8_86 iv_X8_reasonFor rfl sm0 rfl rfl rfl rfl rfl rfl dX8_bend_35 (fun r9 N10 hN10 => ?_)
      obtain ⟨rfl, hJ⟩ := hN10
      refine zq_if_ne (tgt := 67) C dX8_bend_38 rfl (fun h20 => ?_) (fun h20 => ?_)
      · have hJ := hJ.1 h20
        exact hj67 _ _ hJ
      · have hJ := hJ.2 h20
        refine zq_iload_n (i := 2) C dX8_bend_41 rfl rfl ?_
        refine zq_bipush (x := (-5)) C dX8_bend_42 bi_m5 ik_m5 ?_
        refine zq_icmp_eq (tgt := 63) C dX8_bend_44 rfl (fun h19 => ?_) (fun h19 => ?_)
        · have hJ := hJ.1 h19
          exact hj63 _ _ hJ
        · have hJ := hJ.2 h19
          refine zq_aload_n (i := 0) C dX8_bend_47 rfl rfl ?_
          refine zq_iload_n (i := 1) C dX8_bend_48 rfl rfl ?_
          refine zq_iload C dX8_bend_49 rfl ?_
          refine zq_callVi C [zi a1, zi x4] (wM_worth l _ _ _  hJ) ck_X8_89 iv_X8_worth rfl sm0 rfl rfl rfl rfl rfl rfl dX8_bend_51 (fun r14 N15 hN15 => ?_)
          obtain ⟨rfl, hJ⟩ := hN15
          refine zq_aload_n (i := 0) C dX8_bend_54 rfl rfl ?_
          refine zq_iload_n (i := 1) C dX8_bend_55 rfl rfl ?_
          refine zq_iload_n (i := 2) C dX8_bend_56 rfl rfl ?_
          refine zq_callVi C [zi a1, zi x2] (wM_worth l _ _ _  hJ) ck_X8_89 iv_X8_worth rfl sm0 rfl rfl rfl rfl rfl rfl dX8_bend_57 (fun r16 N17 hN17 => ?_)
          obtain ⟨rfl, hJ⟩ := hN17
          refine zq_icmp_ge (tgt := 67) C dX8_bend_60 rfl (fun h18 => ?_) (fun h18 => ?_)
          · have hJ := hJ.1 h18
            exact hj67 _ _ hJ
          · have hJ := hJ.2 h18
            exact hj63 _ _ hJ
  refine zq_bipush (x := (-5)) C dX8_bend_0 bi_m5 ik_m5 ?_
  refine zq_istore_n (i := 2) (lv' := [some (zr 0), some (zi a1), some (zi (-5)), none, none, none]) C dX8_bend_2 rfl (Nat.le_of_ble_eq_true rfl) rfl ?_
  refine zq_aload_n (i := 0) C dX8_bend_3 rfl rfl ?_
  refine zq_aload_n (i := 0) C dX8_bend_4 rfl rfl ?_
  refine zq_iload_n (i := 1) C dX8_bend_5 rfl rfl ?_
  refine zq_callVi C [zi a1] (wM_to l _ _  hJ) ck_X8_73 iv_X8_to rfl sm0 rfl rfl rfl rfl rfl rfl dX8_bend_6 (fun r1 N2 hN2 => ?_)
  obtain ⟨rfl, hJ⟩ := hN2
  refine zq_iconst (x := 2) C dX8_bend_9 rfl ik_2 ?_
  refine zq_callVi C [zi r1, zi 2] (wM_of l _ _ _  hJ) ck_X8_48 iv_X8_of rfl sm0 rfl rfl rfl rfl rfl rfl dX8_bend_10 (fun r3 N4 hN4 => ?_)
  obtain ⟨rfl, hJ⟩ := hN4
  refine zq_istore_n (i := 3) (lv' := [some (zr 0), some (zi a1), some (zi (-5)), some (zi r3), none, none]) C dX8_bend_13 rfl (Nat.le_of_ble_eq_true rfl) rfl ?_
  refine zq_aload_n (i := 0) C dX8_bend_14 rfl rfl ?_
  refine zq_aload_n (i := 0) C dX8_bend_15 rfl rfl ?_
  refine zq_iload_n (i := 1) C dX8_bend_16 rfl rfl ?_
  refine zq_callVi C [zi a1] (wM_from l _ _  hJ) ck_X8_70 iv_X8_from rfl sm0 rfl rfl rfl rfl rfl rfl dX8_bend_17 (fun r5 N6 hN6 => ?_)
  obtain ⟨rfl, hJ⟩ := hN6
  refine zq_callVi C [zi r5] (wM_end l _ _  hJ) ck_X8_56 iv_X8_end rfl sm0 rfl rfl rfl rfl rfl rfl dX8_bend_20 (fun r7 N8 hN8 => ?_)
  obtain ⟨rfl, hJ⟩ := hN8
  refine zq_istore (lv' := [some (zr 0), some (zi a1), some (zi (-5)), some (zi r3), some (zi r7), none]) C dX8_bend_23 (Nat.le_of_ble_eq_true rfl) rfl ?_
  exact hl25 _ _ hJ
set_option maxRecDepth 100000 in
set_option maxHeartbeats 4000000 in
theorem wM_layBends (l : Launch)  (M : zM) {Φ : zM → Prop} (hJ : jM_layBends  M Φ) : zMet l yX8_layBends cX8_layBends 2 none 5 118 shM [zr 0] M (zU Φ) := by
  refine zq_enter [some (zr 0), none] (by decide) rfl (Nat.le_of_ble_eq_true rfl) rfl (fun X C => ?_)
  unfold jM_layBends at hJ
  have hl2 : ∀ (s : Int × zM), zwh (fun K s => jM_layBends_L2  K Φ (s.1) (s.2)) s → zG X (s.2) 2 [some (zr 0), some (zi (s.1))] [] := by
    refine zwh_sound ?_
    intro K2 s hK2 hJ
    obtain ⟨x1, M⟩ := s
    have hJ : jM_layBends_L2  K2 Φ x1 M := hJ
    show zG X M 2 [some (zr 0), some (zi x1)] []
    unfold jM_layBends_L2 at hJ
    refine zq_iload_n (i := 1) C dX8_layBends_2 rfl rfl ?_
    refine zq_aload_n (i := 0) C dX8_layBends_3 rfl rfl ?_
    refine zq_getr C fk_X8_7 sm0 rfl dX8_layBends_4 ?_
    refine zq_bipush (x := 121) C dX8_layBends_7 bi_121 ik_121 ?_
    refine zq_iald C sm1 (by decide) (by decide) dX8_layBends_9 ?_
    refine zq_icmp_ge (tgt := 30) C dX8_layBends_10 rfl (fun h6 => ?_) (fun h6 => ?_)
    · have hJ := hJ.1 h6
      exact zq_vret C rfl hJ dX8_layBends_30
    · have hJ := hJ.2 h6
      refine zq_aload_n (i := 0) C dX8_layBends_13 rfl rfl ?_
      refine zq_getr C fk_X8_25 sm0 rfl dX8_layBends_14 ?_
      refine zq_iload_n (i := 1) C dX8_layBends_17 rfl rfl ?_
      refine zq_aload_n (i := 0) C dX8_layBends_18 rfl rfl ?_
      refine zq_iload_n (i := 1) C dX8_layBends_19 rfl rfl ?_
      refine zq_callVi C [zi x1] (wM_bend l _ _  hJ) ck_X8_92 iv_X8_bend rfl sm0 rfl rfl rfl rfl rfl rfl dX8_layBends_20 (fun r1 N2 hN2 => ?_)
      obtain ⟨rfl, hJ⟩ := hN2
      obtain ⟨h3, h3', hJ⟩ := hJ
      refine zq_iast C sm6 h3 h3' dX8_layBends_23 (fun M4 hM4 => ?_)
      have hJ := hJ M4 hM4
      obtain ⟨hv1_5, hJ⟩ := hJ
      refine zq_iinc (y := x1 + 1) (lv' := [some (zr 0), some (zi (x1 + 1))]) C dX8_layBends_24 rfl rfl hv1_5 rfl ?_
      obtain ⟨v1_5, ev1_5⟩ : ∃ z, z = x1 + 1 := ⟨_, rfl⟩
      rw [← ev1_5]
      have hJ := hJ v1_5 ev1_5
      refine zq_goto (tgt := 2) C dX8_layBends_27 rfl ?_
      exact hK2 _ hJ
  refine zq_iconst (x := 0) C dX8_layBends_0 rfl ik_0 ?_
  refine zq_istore_n (i := 1) (lv' := [some (zr 0), some (zi 0)]) C dX8_layBends_1 rfl (Nat.le_of_ble_eq_true rfl) rfl ?_
  exact hl2 _ hJ
set_option maxRecDepth 100000 in
set_option maxHeartbeats 4000000 in
theorem wM_goesAlong (l : Launch) (a1 a2 a3 : Int) (M : zM) {Φ : Int → Prop} (hJ : jM_goesAlong a1 a2 a3 M Φ) : zMet l yX8_goesAlong cX8_goesAlong 11 (some .boolean) 3 65 shM [zr 0, zi a1, zi a2, zi a3] M (zI (fun z M' => M = M' ∧ Φ z)) := by
  refine zq_enter [some (zr 0), some (zi a1), some (zi a2), some (zi a3), none, none, none, none, none, none, none] (by decide) rfl (Nat.le_of_ble_eq_true rfl) rfl (fun X C => ?_)
  unfold jM_goesAlong at hJ
  have hj115 : ∀ (x9 x10 : Int), jM_goesAlong_J115 a1 a2 a3 Φ x9 x10 M → zG X M 115 [some (zr 0), some (zi a1), some (zi a2), some (zi a3), none, none, none, none, none, some (zi x9), some (zi x10)] [] := by
    intro x9 x10 hJ
    unfold jM_goesAlong_J115 at hJ
    refine zq_iload_n (i := 3) C dX8_goesAlong_115 rfl rfl ?_
    refine zq_iload C dX8_goesAlong_116 rfl ?_
    refine zq_icmp_lt (tgt := 133) C dX8_goesAlong_118 rfl (fun h24 => ?_) (fun h24 => ?_)
    · have hJ := hJ.1 h24
      refine zq_iconst (x := 0) C dX8_goesAlong_133 rfl ik_0 ?_
      exact zq_zret C rfl (Or.inl rfl) ⟨_, rfl, rfl, hJ⟩ dX8_goesAlong_134
    · have hJ := hJ.2 h24
      refine zq_iload_n (i := 3) C dX8_goesAlong_121 rfl rfl ?_
      refine zq_iconst (x := 1) C dX8_goesAlong_122 rfl ik_1 ?_
      obtain ⟨h22, hJ⟩ := hJ
      refine zq_iadd C dX8_goesAlong_123 h22 ?_
      refine zq_iload C dX8_goesAlong_124 rfl ?_
      refine zq_icmp_gt (tgt := 133) C dX8_goesAlong_126 rfl (fun h23 => ?_) (fun h23 => ?_)
      · have hJ := hJ.1 h23
        refine zq_iconst (x := 0) C dX8_goesAlong_133 rfl ik_0 ?_
        exact zq_zret C rfl (Or.inl rfl) ⟨_, rfl, rfl, hJ⟩ dX8_goesAlong_134
      · have hJ := hJ.2 h23
        refine zq_iconst (x := 1) C dX8_goesAlong_129 rfl ik_1 ?_
        refine zq_goto (tgt := 134) C dX8_goesAlong_130 rfl ?_
        exact zq_zret C rfl (Or.inr rfl) ⟨_, rfl, rfl, hJ⟩ dX8_goesAlong_134
  have hj103 : ∀ (x7 x8 x9 s0 : Int), jM_goesAlong_J103 a1 a2 a3 Φ x7 x8 x9 s0 M → zG X M 103 [some (zr 0), some (zi a1), some (zi a2), some (zi a3), none, none, none, some (zi x7), some (zi x8), some (zi x9), none] [zi s0] := by
    intro x7 x8 x9 s0 hJ
    unfold jM_goesAlong_J103 at hJ
    refine zq_istore (lv' := [some (zr 0), some (zi a1), some (zi a2), some (zi a3), none, none, none, some (zi x7), some (zi x8), some (zi x9), some (zi s0)]) C dX8_goesAlong_103 (Nat.le_of_ble_eq_true rfl) rfl ?_
    refine zq_iload C dX8_goesAlong_105 rfl ?_
    refine zq_if_ne (tgt := 115) C dX8_goesAlong_107 rfl (fun h26 => ?_) (fun h26 => ?_)
    · have hJ := hJ.1 h26
      refine zq_weak [some (zr 0), some (zi a1), some (zi a2), some (zi a3), none, none, none, none, none, some (zi x9), some (zi s0)] ⟨Or.inr rfl, Or.inr rfl, Or.inr rfl, Or.inr rfl, Or.inl rfl, Or.inl rfl, Or.inl rfl, Or.inl rfl, Or.inl rfl, Or.inr rfl, Or.inr rfl, trivial⟩ ?_
      exact hj115 _ _ hJ
    · have hJ := hJ.2 h26
      refine zq_iload C dX8_goesAlong_110 rfl ?_
      refine zq_if_eq (tgt := 133) C dX8_goesAlong_112 rfl (fun h25 => ?_) (fun h25 => ?_)
      · have hJ := hJ.1 h25
        refine zq_iconst (x := 0) C dX8_goesAlong_133 rfl ik_0 ?_
        exact zq_zret C rfl (Or.inl rfl) ⟨_, rfl, rfl, hJ⟩ dX8_goesAlong_134
      · have hJ := hJ.2 h25
        refine zq_weak [some (zr 0), some (zi a1), some (zi a2), some (zi a3), none, none, none, none, none, some (zi x9), some (zi s0)] ⟨Or.inr rfl, Or.inr rfl, Or.inr rfl, Or.inr rfl, Or.inl rfl, Or.inl rfl, Or.inl rfl, Or.inl rfl, Or.inl rfl, Or.inr rfl, Or.inr rfl, trivial⟩ ?_
        exact hj115 _ _ hJ
  have hj87 : ∀ (x5 x6 x7 x8 s0 : Int), jM_goesAlong_J87 a1 a2 a3 Φ x5 x6 x7 x8 s0 M → zG X M 87 [some (zr 0), some (zi a1), some (zi a2), some (zi a3), none, some (zi x5), some (zi x6), some (zi x7), some (zi x8), none, none] [zi s0] := by
    intro x5 x6 x7 x8 s0 hJ
    unfold jM_goesAlong_J87 at hJ
    refine zq_istore (lv' := [some (zr 0), some (zi a1), some (zi a2), some (zi a3), none, some (zi x5), some (zi x6), some (zi x7), some (zi x8), some (zi s0), none]) C dX8_goesAlong_87 (Nat.le_of_ble_eq_true rfl) rfl ?_
    refine zq_iload C dX8_goesAlong_89 rfl ?_
    refine zq_if_eq (tgt := 99) C dX8_goesAlong_91 rfl (fun h27 => ?_) (fun h27 => ?_)
    · have hJ := hJ.1 h27
      refine zq_iload C dX8_goesAlong_99 rfl ?_
      refine zq_iconst (x := 1) C dX8_goesAlong_101 rfl ik_1 ?_
      obtain ⟨h21, hJ⟩ := hJ
      refine zq_isub C dX8_goesAlong_102 h21 ?_
      refine zq_weak [some (zr 0), some (zi a1), some (zi a2), some (zi a3), none, none, none, some (zi x7), some (zi x8), some (zi s0), none] ⟨Or.inr rfl, Or.inr rfl, Or.inr rfl, Or.inr rfl, Or.inl rfl, Or.inl rfl, Or.inl rfl, Or.inr rfl, Or.inr rfl, Or.inr rfl, Or.inl rfl, trivial⟩ ?_
      exact hj103 _ _ _ _ hJ
    · have hJ := hJ.2 h27
      refine zq_iload C dX8_goesAlong_94 rfl ?_
      refine zq_goto (tgt := 103) C dX8_goesAlong_96 rfl ?_
      refine zq_weak [some (zr 0), some (zi a1), some (zi a2), some (zi a3), none, none, none, some (zi x7), some (zi x8), some (zi s0), none] ⟨Or.inr rfl, Or.inr rfl, Or.inr rfl, Or.inr rfl, Or.inl rfl, Or.inl rfl, Or.inl rfl, Or.inr rfl, Or.inr rfl, Or.inr rfl, Or.inl rfl, trivial⟩ ?_
      exact hj103 _ _ _ _ hJ
  have hj73 : ∀ (x4 x5 x6 x7 s0 : Int), jM_goesAlong_J73 a1 a2 a3 Φ x4 x5 x6 x7 s0 M → zG X M 73 [some (zr 0), some (zi a1), some (zi a2), some (zi a3), some (zi x4), some (zi x5), some (zi x6), some (zi x7), none, none, none] [zi s0] := by
    intro x4 x5 x6 x7 s0 hJ
    unfold jM_goesAlong_J73 at hJ
    refine zq_istore (lv' := [some (zr 0), some (zi a1), some (zi a2), some (zi a3), some (zi x4), some (zi x5), some (zi x6), some (zi x7), some (zi s0), none, none]) C dX8_goesAlong_73 (Nat.le_of_ble_eq_true rfl) rfl ?_
    refine zq_iload C dX8_goesAlong_75 rfl ?_
    refine zq_if_eq (tgt := 85) C dX8_goesAlong_77 rfl (fun h28 => ?_) (fun h28 => ?_)
    · have hJ := hJ.1 h28
      refine zq_iload C dX8_goesAlong_85 rfl ?_
      refine zq_weak [some (zr 0), some (zi a1), some (zi a2), some (zi a3), none, some (zi x5), some (zi x6), some (zi x7), some (zi s0), none, none] ⟨Or.inr rfl, Or.inr rfl, Or.inr rfl, Or.inr rfl, Or.inl rfl, Or.inr rfl, Or.inr rfl, Or.inr rfl, Or.inr rfl, Or.inl rfl, Or.inl rfl, trivial⟩ ?_
      exact hj87 _ _ _ _ _ hJ
    · have hJ := hJ.2 h28
      refine zq_iload C dX8_goesAlong_80 rfl ?_
      refine zq_goto (tgt := 87) C dX8_goesAlong_82 rfl ?_
      refine zq_weak [some (zr 0), some (zi a1), some (zi a2), some (zi a3), none, some (zi x5), some (zi x6), some (zi x7), some (zi s0), none, none] ⟨Or.inr rfl, Or.inr rfl, Or.inr rfl, Or.inr rfl, Or.inl rfl, Or.inr rfl, Or.inr rfl, Or.inr rfl, Or.inr rfl, Or.inl rfl, Or.inl rfl, trivial⟩ ?_
      exact hj87 _ _ _ _ _ hJ
  have hj52 : ∀ (x4 x5 x6 s0 : Int), jM_goesAlong_J52 a1 a2 a3 Φ x4 x5 x6 s0 M → zG X M 52 [some (zr 0), some (zi a1), some (zi a2), some (zi a3), some (zi x4), some (zi x5), some (zi x6), none, none, none, none] [zi s0] := by
    intro x4 x5 x6 s0 hJ
    unfold jM_goesAlong_J52 at hJ
    refine zq_istore (lv' := [some (zr 0), some (zi a1), some (zi a2), some (zi a3), some (zi x4), some (zi x5), some (zi x6), some (zi s0), none, none, none]) C dX8_goesAlong_52 (Nat.le_of_ble_eq_true rfl) rfl ?_
    refine zq_aload_n (i := 0) C dX8_goesAlong_54 rfl rfl ?_
    refine zq_aload_n (i := 0) C dX8_goesAlong_55 rfl rfl ?_
    refine zq_iload_n (i := 1) C dX8_goesAlong_56 rfl rfl ?_
    refine zq_callVi C [zi a1] (wM_to l _ _  hJ) ck_X8_73 iv_X8_to rfl sm0 rfl rfl rfl rfl rfl rfl dX8_goesAlong_57 (fun r17 N18 hN18 => ?_)
    obtain ⟨rfl, hJ⟩ := hN18
    refine zq_iconst (x := 1) C dX8_goesAlong_60 rfl ik_1 ?_
    refine zq_callVi C [zi r17, zi 1] (wM_of l _ _ _  hJ) ck_X8_48 iv_X8_of rfl sm0 rfl rfl rfl rfl rfl rfl dX8_goesAlong_61 (fun r19 N20 hN20 => ?_)
    obtain ⟨rfl, hJ⟩ := hN20
    refine zq_iload_n (i := 2) C dX8_goesAlong_64 rfl rfl ?_
    refine zq_icmp_ne (tgt := 72) C dX8_goesAlong_65 rfl (fun h29 => ?_) (fun h29 => ?_)
    · have hJ := hJ.1 h29
      refine zq_iconst (x := 0) C dX8_goesAlong_72 rfl ik_0 ?_
      exact hj73 _ _ _ _ _ hJ
    · have hJ := hJ.2 h29
      refine zq_iconst (x := 1) C dX8_goesAlong_68 rfl ik_1 ?_
      refine zq_goto (tgt := 73) C dX8_goesAlong_69 rfl ?_
      exact hj73 _ _ _ _ _ hJ
  refine zq_aload_n (i := 0) C dX8_goesAlong_0 rfl rfl ?_
  refine zq_aload_n (i := 0) C dX8_goesAlong_1 rfl rfl ?_
  refine zq_iload_n (i := 1) C dX8_goesAlong_2 rfl rfl ?_
  refine zq_callVi C [zi a1] (wM_from l _ _  hJ) ck_X8_70 iv_X8_from rfl sm0 rfl rfl rfl rfl rfl rfl dX8_goesAlong_3 (fun r1 N2 hN2 => ?_)
  obtain ⟨rfl, hJ⟩ := hN2
  refine zq_callVi C [zi r1] (wM_end l _ _  hJ) ck_X8_56 iv_X8_end rfl sm0 rfl rfl rfl rfl rfl rfl dX8_goesAlong_6 (fun r3 N4 hN4 => ?_)
  obtain ⟨rfl, hJ⟩ := hN4
  refine zq_istore (lv' := [some (zr 0), some (zi a1), some (zi a2), some (zi a3), some (zi r3), none, none, none, none, none, none]) C dX8_goesAlong_9 (Nat.le_of_ble_eq_true rfl) rfl ?_
  refine zq_aload_n (i := 0) C dX8_goesAlong_11 rfl rfl ?_
  refine zq_aload_n (i := 0) C dX8_goesAlong_12 rfl rfl ?_
  refine zq_iload_n (i := 1) C dX8_goesAlong_13 rfl rfl ?_
  refine zq_callVi C [zi a1] (wM_to l _ _  hJ) ck_X8_73 iv_X8_to rfl sm0 rfl rfl rfl rfl rfl rfl dX8_goesAlong_14 (fun r5 N6 hN6 => ?_)
  obtain ⟨rfl, hJ⟩ := hN6
  refine zq_iconst (x := 2) C dX8_goesAlong_17 rfl ik_2 ?_
  refine zq_callVi C [zi r5, zi 2] (wM_of l _ _ _  hJ) ck_X8_48 iv_X8_of rfl sm0 rfl rfl rfl rfl rfl rfl dX8_goesAlong_18 (fun r7 N8 hN8 => ?_)
  obtain ⟨rfl, hJ⟩ := hN8
  refine zq_iconst (x := 1) C dX8_goesAlong_21 rfl ik_1 ?_
  obtain ⟨h9, hJ⟩ := hJ
  refine zq_isub C dX8_goesAlong_22 h9 ?_
  refine zq_istoreN C (fun v => [some (zr 0), some (zi a1), some (zi a2), some (zi a3), some (zi r3), some (zi v), none, none, none, none, none]) dX8_goesAlong_23 (Nat.le_of_ble_eq_true rfl) (fun _ => rfl) (fun v5_10 hv5_10 => ?_)
  have hJ := hJ v5_10 hv5_10
  refine zq_aload_n (i := 0) C dX8_goesAlong_25 rfl rfl ?_
  refine zq_getr C fk_X8_25 sm0 rfl dX8_goesAlong_26 ?_
  refine zq_iload_n (i := 1) C dX8_goesAlong_29 rfl rfl ?_
  obtain ⟨h11, h11', hJ⟩ := hJ
  refine zq_iald C sm6 h11 h11' dX8_goesAlong_30 ?_
  refine zq_istoreN C (fun v => [some (zr 0), some (zi a1), some (zi a2), some (zi a3), some (zi r3), some (zi v5_10), some (zi v), none, none, none, none]) dX8_goesAlong_31 (Nat.le_of_ble_eq_true rfl) (fun _ => rfl) (fun v6_12 hv6_12 => ?_)
  have hJ := hJ v6_12 hv6_12
  refine zq_aload_n (i := 0) C dX8_goesAlong_33 rfl rfl ?_
  refine zq_aload_n (i := 0) C dX8_goesAlong_34 rfl rfl ?_
  refine zq_iload_n (i := 1) C dX8_goesAlong_35 rfl rfl ?_
  refine zq_callVi C [zi a1] (wM_from l _ _  hJ) ck_X8_70 iv_X8_from rfl sm0 rfl rfl rfl rfl rfl rfl dX8_goesAlong_36 (fun r13 N14 hN14 => ?_)
  obtain ⟨rfl, hJ⟩ := hN14
  refine zq_iconst (x := 1) C dX8_goesAlong_39 rfl ik_1 ?_
  refine zq_callVi C [zi r13, zi 1] (wM_of l _ _ _  hJ) ck_X8_48 iv_X8_of rfl sm0 rfl rfl rfl rfl rfl rfl dX8_goesAlong_40 (fun r15 N16 hN16 => ?_)
  obtain ⟨rfl, hJ⟩ := hN16
  refine zq_iload_n (i := 2) C dX8_goesAlong_43 rfl rfl ?_
  refine zq_icmp_ne (tgt := 51) C dX8_goesAlong_44 rfl (fun h30 => ?_) (fun h30 => ?_)
  · have hJ := hJ.1 h30
    refine zq_iconst (x := 0) C dX8_goesAlong_51 rfl ik_0 ?_
    exact hj52 _ _ _ _ hJ
  · have hJ := hJ.2 h30
    refine zq_iconst (x := 1) C dX8_goesAlong_47 rfl ik_1 ?_
    refine zq_goto (tgt := 52) C dX8_goesAlong_48 rfl ?_
    exact hj52 _ _ _ _ hJ
set_option maxRecDepth 100000 in
set_option maxHeartbeats 4000000 in
theorem wM_points (l : Launch) (a1 a2 : Int) (M : zM) {Φ : Int → Prop} (hJ : jM_points a1 a2 M Φ) : zMet l yX8_points cX8_points 6 (some .int) 4 95 shM [zr 0, zi a1, zi a2] M (zI (fun z M' => M = M' ∧ Φ z)) := by
  refine zq_enter [some (zr 0), some (zi a1), some (zi a2), none, none, none] (by decide) rfl (Nat.le_of_ble_eq_true rfl) rfl (fun X C => ?_)
  unfold jM_points at hJ
  have hl5 : ∀ (s : Int × Int), zwh (fun K s => jM_points_L5 a1 a2 K Φ M (s.1) (s.2)) s → zG X M 5 [some (zr 0), some (zi a1), some (zi a2), some (zi (s.1)), some (zi (s.2)), none] [] := by
    refine zwh_sound ?_
    intro K5 s hK5 hJ
    obtain ⟨x3, x4⟩ := s
    have hJ : jM_points_L5 a1 a2 K5 Φ M x3 x4 := hJ
    show zG X M 5 [some (zr 0), some (zi a1), some (zi a2), some (zi x3), some (zi x4), none] []
    unfold jM_points_L5 at hJ
    have hj91 : ∀ (x3 x4 s0 : Int), jM_points_J91 a1 a2 K5 Φ x3 x4 s0 M → zG X M 91 [some (zr 0), some (zi a1), some (zi a2), some (zi x3), some (zi x4), none] [zi s0] := by
      intro x3 x4 s0 hJ
      unfold jM_points_J91 at hJ
      refine zq_istore (lv' := [some (zr 0), some (zi a1), some (zi a2), some (zi x3), some (zi x4), some (zi s0)]) C dX8_points_91 (Nat.le_of_ble_eq_true rfl) rfl ?_
      refine zq_iload_n (i := 3) C dX8_points_93 rfl rfl ?_
      refine zq_iload C dX8_points_94 rfl ?_
      refine zq_if_eq (tgt := 103) C dX8_points_96 rfl (fun h19 => ?_) (fun h19 => ?_)
      · have hJ := hJ.1 h19
        refine zq_iconst (x := 0) C dX8_points_103 rfl ik_0 ?_
        obtain ⟨h13, hJ⟩ := hJ
        refine zq_iadd C dX8_points_104 h13 ?_
        refine zq_istoreN_n (i := 3) C (fun v => [some (zr 0), some (zi a1), some (zi a2), some (zi v), some (zi x4), some (zi s0)]) dX8_points_105 rfl (Nat.le_of_ble_eq_true rfl) (fun _ => rfl) (fun v3_14 hv3_14 => ?_)
        have hJ := hJ v3_14 hv3_14
        obtain ⟨hv4_15, hJ⟩ := hJ
        refine zq_iinc (y := x4 + 1) (lv' := [some (zr 0), some (zi a1), some (zi a2), some (zi v3_14), some (zi (x4 + 1)), some (zi s0)]) C dX8_points_106 rfl rfl hv4_15 rfl ?_
        obtain ⟨v4_15, ev4_15⟩ : ∃ z, z = x4 + 1 := ⟨_, rfl⟩
        rw [← ev4_15]
        have hJ := hJ v4_15 ev4_15
        refine zq_goto (tgt := 5) C dX8_points_109 rfl ?_
        refine zq_weak [some (zr 0), some (zi a1), some (zi a2), some (zi v3_14), some (zi v4_15), none] ⟨Or.inr rfl, Or.inr rfl, Or.inr rfl, Or.inr rfl, Or.inr rfl, Or.inl rfl, trivial⟩ ?_
        exact hK5 _ hJ
      · have hJ := hJ.2 h19
        refine zq_iconst (x := 1) C dX8_points_99 rfl ik_1 ?_
        refine zq_goto (tgt := 104) C dX8_points_100 rfl ?_
        obtain ⟨h16, hJ⟩ := hJ
        refine zq_iadd C dX8_points_104 h16 ?_
        refine zq_istoreN_n (i := 3) C (fun v => [some (zr 0), some (zi a1), some (zi a2), some (zi v), some (zi x4), some (zi s0)]) dX8_points_105 rfl (Nat.le_of_ble_eq_true rfl) (fun _ => rfl) (fun v3_17 hv3_17 => ?_)
        have hJ := hJ v3_17 hv3_17
        obtain ⟨hv4_18, hJ⟩ := hJ
        refine zq_iinc (y := x4 + 1) (lv' := [some (zr 0), some (zi a1), some (zi a2), some (zi v3_17), some (zi (x4 + 1)), some (zi s0)]) C dX8_points_106 rfl rfl hv4_18 rfl ?_
        obtain ⟨v4_18, ev4_18⟩ : ∃ z, z = x4 + 1 := ⟨_, rfl⟩
        rw [← ev4_18]
        have hJ := hJ v4_18 ev4_18
        refine zq_goto (tgt := 5) C dX8_points_109 rfl ?_
        refine zq_weak [some (zr 0), some (zi a1), some (zi a2), some (zi v3_17), some (zi v4_18), none] ⟨Or.inr rfl, Or.inr rfl, Or.inr rfl, Or.inr rfl, Or.inr rfl, Or.inl rfl, trivial⟩ ?_
        exact hK5 _ hJ
    have hj90 : ∀ (x3 x4 : Int), jM_points_J90 a1 a2 K5 Φ x3 x4 M → zG X M 90 [some (zr 0), some (zi a1), some (zi a2), some (zi x3), some (zi x4), none] [] := by
      intro x3 x4 hJ
      unfold jM_points_J90 at hJ
      refine zq_iconst (x := 0) C dX8_points_90 rfl ik_0 ?_
      exact hj91 _ _ _ hJ
    refine zq_iload C dX8_points_5 rfl ?_
    refine zq_bipush (x := 12) C dX8_points_7 bi_12 ik_12 ?_
    refine zq_icmp_ge (tgt := 112) C dX8_points_9 rfl (fun h29 => ?_) (fun h29 => ?_)
    · have hJ := hJ.1 h29
      refine zq_iload_n (i := 3) C dX8_points_112 rfl rfl ?_
      exact zq_iret C rfl ⟨_, rfl, rfl, hJ⟩ dX8_points_113
    · have hJ := hJ.2 h29
      refine zq_iload_n (i := 1) C dX8_points_12 rfl rfl ?_
      refine zq_iload_n (i := 2) C dX8_points_13 rfl rfl ?_
      refine zq_icmp_eq (tgt := 112) C dX8_points_14 rfl (fun h28 => ?_) (fun h28 => ?_)
      · have hJ := hJ.1 h28
        refine zq_iload_n (i := 3) C dX8_points_112 rfl rfl ?_
        exact zq_iret C rfl ⟨_, rfl, rfl, hJ⟩ dX8_points_113
      · have hJ := hJ.2 h28
        refine zq_aload_n (i := 0) C dX8_points_17 rfl rfl ?_
        refine zq_getr C fk_X8_25 sm0 rfl dX8_points_18 ?_
        refine zq_iload_n (i := 1) C dX8_points_21 rfl rfl ?_
        obtain ⟨h1, h1', hJ⟩ := hJ
        refine zq_iald C sm6 h1 h1' dX8_points_22 ?_
        refine zq_bipush (x := (-5)) C dX8_points_23 bi_m5 ik_m5 ?_
        refine zq_icmp_eq (tgt := 112) C dX8_points_25 rfl (fun h27 => ?_) (fun h27 => ?_)
        · have hJ := hJ.1 h27
          refine zq_iload_n (i := 3) C dX8_points_112 rfl rfl ?_
          exact zq_iret C rfl ⟨_, rfl, rfl, hJ⟩ dX8_points_113
        · have hJ := hJ.2 h27
          refine zq_aload_n (i := 0) C dX8_points_28 rfl rfl ?_
          refine zq_getr C fk_X8_25 sm0 rfl dX8_points_29 ?_
          refine zq_iload_n (i := 2) C dX8_points_32 rfl rfl ?_
          obtain ⟨h2, h2', hJ⟩ := hJ
          refine zq_iald C sm6 h2 h2' dX8_points_33 ?_
          refine zq_bipush (x := (-5)) C dX8_points_34 bi_m5 ik_m5 ?_
          refine zq_icmp_eq (tgt := 112) C dX8_points_36 rfl (fun h26 => ?_) (fun h26 => ?_)
          · have hJ := hJ.1 h26
            refine zq_iload_n (i := 3) C dX8_points_112 rfl rfl ?_
            exact zq_iret C rfl ⟨_, rfl, rfl, hJ⟩ dX8_points_113
          · have hJ := hJ.2 h26
            refine zq_aload_n (i := 0) C dX8_points_39 rfl rfl ?_
            refine zq_iload C dX8_points_40 rfl ?_
            refine zq_aload_n (i := 0) C dX8_points_42 rfl rfl ?_
            refine zq_aload_n (i := 0) C dX8_points_43 rfl rfl ?_
            refine zq_iload_n (i := 1) C dX8_points_44 rfl rfl ?_
            refine zq_callVi C [zi a1] (wM_from l _ _  hJ) ck_X8_70 iv_X8_from rfl sm0 rfl rfl rfl rfl rfl rfl dX8_points_45 (fun r3 N4 hN4 => ?_)
            obtain ⟨rfl, hJ⟩ := hN4
            refine zq_iconst (x := 1) C dX8_points_48 rfl ik_1 ?_
            refine zq_callVi C [zi r3, zi 1] (wM_of l _ _ _  hJ) ck_X8_48 iv_X8_of rfl sm0 rfl rfl rfl rfl rfl rfl dX8_points_49 (fun r5 N6 hN6 => ?_)
            obtain ⟨rfl, hJ⟩ := hN6
            refine zq_aload_n (i := 0) C dX8_points_52 rfl rfl ?_
            refine zq_aload_n (i := 0) C dX8_points_53 rfl rfl ?_
            refine zq_iload_n (i := 1) C dX8_points_54 rfl rfl ?_
            refine zq_callVi C [zi a1] (wM_to l _ _  hJ) ck_X8_73 iv_X8_to rfl sm0 rfl rfl rfl rfl rfl rfl dX8_points_55 (fun r7 N8 hN8 => ?_)
            obtain ⟨rfl, hJ⟩ := hN8
            refine zq_iconst (x := 1) C dX8_points_58 rfl ik_1 ?_
            refine zq_callVi C [zi r7, zi 1] (wM_of l _ _ _  hJ) ck_X8_48 iv_X8_of rfl sm0 rfl rfl rfl rfl rfl rfl dX8_points_59 (fun r9 N10 hN10 => ?_)
            obtain ⟨rfl, hJ⟩ := hN10
            refine zq_callVi C [zi x4, zi r5, zi r9] (wM_isBetween l _ _ _ _  hJ) ck_X8_83 iv_X8_isBetween rfl sm0 rfl rfl rfl rfl rfl rfl dX8_points_62 (fun r11 N12 hN12 => ?_)
            obtain ⟨rfl, hJ⟩ := hN12
            refine zq_if_eq (tgt := 90) C dX8_points_65 rfl (fun h25 => ?_) (fun h25 => ?_)
            · have hJ := hJ.1 h25
              exact hj90 _ _ hJ
            · have hJ := hJ.2 h25
              refine zq_aload_n (i := 0) C dX8_points_68 rfl rfl ?_
              refine zq_iload_n (i := 2) C dX8_points_69 rfl rfl ?_
              refine zq_iload C dX8_points_70 rfl ?_
              refine zq_aload_n (i := 0) C dX8_points_72 rfl rfl ?_
              refine zq_getr C fk_X8_25 sm0 rfl dX8_points_73 ?_
              refine zq_iload_n (i := 1) C dX8_points_76 rfl rfl ?_
              obtain ⟨h20, h20', hJ⟩ := hJ
              refine zq_iald C sm6 h20 h20' dX8_points_77 ?_
              refine zq_iconst (x := 1) C dX8_points_78 rfl ik_1 ?_
              obtain ⟨h21, hJ⟩ := hJ
              refine zq_isub C dX8_points_79 h21 ?_
              refine zq_callVi C [zi a2, zi x4, zi ((M 6 a1) - 1)] (wM_goesAlong l _ _ _ _  hJ) ck_X8_95 iv_X8_goesAlong rfl sm0 rfl rfl rfl rfl rfl rfl dX8_points_80 (fun r22 N23 hN23 => ?_)
              obtain ⟨rfl, hJ⟩ := hN23
              refine zq_if_eq (tgt := 90) C dX8_points_83 rfl (fun h24 => ?_) (fun h24 => ?_)
              · have hJ := hJ.1 h24
                exact hj90 _ _ hJ
              · have hJ := hJ.2 h24
                refine zq_iconst (x := 1) C dX8_points_86 rfl ik_1 ?_
                refine zq_goto (tgt := 91) C dX8_points_87 rfl ?_
                exact hj91 _ _ _ hJ
  refine zq_iconst (x := 0) C dX8_points_0 rfl ik_0 ?_
  refine zq_istore_n (i := 3) (lv' := [some (zr 0), some (zi a1), some (zi a2), some (zi 0), none, none]) C dX8_points_1 rfl (Nat.le_of_ble_eq_true rfl) rfl ?_
  refine zq_iconst (x := 0) C dX8_points_2 rfl ik_0 ?_
  refine zq_istore (lv' := [some (zr 0), some (zi a1), some (zi a2), some (zi 0), some (zi 0), none]) C dX8_points_3 (Nat.le_of_ble_eq_true rfl) rfl ?_
  exact hl5 _ hJ
set_option maxRecDepth 100000 in
set_option maxHeartbeats 4000000 in
theorem wM_allPoints (l : Launch)  (M : zM) {Φ : Int → zM → Prop} (hJ : jM_allPoints  M Φ) : zMet l yX8_allPoints cX8_allPoints 3 (some .int) 6 139 shM [zr 0] M (zI Φ) := by
  refine zq_enter [some (zr 0), none, none] (by decide) rfl (Nat.le_of_ble_eq_true rfl) rfl (fun X C => ?_)
  unfold jM_allPoints at hJ
  have hl8 : ∀ (M : zM) (s : Int × Int), zwh (fun K s => jM_allPoints_L8  K Φ M (s.1) (s.2)) s → zG X M 8 [some (zr 0), some (zi (s.1)), some (zi (s.2))] [] := by
    intro M
    refine zwh_sound ?_
    intro K8 s hK8 hJ
    obtain ⟨x1, x2⟩ := s
    have hJ : jM_allPoints_L8  K8 Φ M x1 x2 := hJ
    show zG X M 8 [some (zr 0), some (zi x1), some (zi x2)] []
    unfold jM_allPoints_L8 at hJ
    refine zq_iload_n (i := 2) C dX8_allPoints_8 rfl rfl ?_
    refine zq_aload_n (i := 0) C dX8_allPoints_9 rfl rfl ?_
    refine zq_getr C fk_X8_7 sm0 rfl dX8_allPoints_10 ?_
    refine zq_bipush (x := 121) C dX8_allPoints_13 bi_121 ik_121 ?_
    refine zq_iald C sm1 (by decide) (by decide) dX8_allPoints_15 ?_
    refine zq_aload_n (i := 0) C dX8_allPoints_16 rfl rfl ?_
    refine zq_getr C fk_X8_7 sm0 rfl dX8_allPoints_17 ?_
    refine zq_bipush (x := 121) C dX8_allPoints_20 bi_121 ik_121 ?_
    refine zq_iald C sm1 (by decide) (by decide) dX8_allPoints_22 ?_
    obtain ⟨h2, hJ⟩ := hJ
    refine zq_imul C dX8_allPoints_23 h2 ?_
    refine zq_icmp_ge (tgt := 58) C dX8_allPoints_24 rfl (fun h10 => ?_) (fun h10 => ?_)
    · have hJ := hJ.1 h10
      refine zq_iload_n (i := 1) C dX8_allPoints_58 rfl rfl ?_
      exact zq_iret C rfl ⟨_, rfl, hJ⟩ dX8_allPoints_59
    · have hJ := hJ.2 h10
      refine zq_iload_n (i := 1) C dX8_allPoints_27 rfl rfl ?_
      refine zq_aload_n (i := 0) C dX8_allPoints_28 rfl rfl ?_
      refine zq_iload_n (i := 2) C dX8_allPoints_29 rfl rfl ?_
      refine zq_aload_n (i := 0) C dX8_allPoints_30 rfl rfl ?_
      refine zq_getr C fk_X8_7 sm0 rfl dX8_allPoints_31 ?_
      refine zq_bipush (x := 121) C dX8_allPoints_34 bi_121 ik_121 ?_
      refine zq_iald C sm1 (by decide) (by decide) dX8_allPoints_36 ?_
      obtain ⟨h3, h3', hJ⟩ := hJ
      refine zq_idiv C dX8_allPoints_37 h3 h3' ?_
      refine zq_iload_n (i := 2) C dX8_allPoints_38 rfl rfl ?_
      refine zq_aload_n (i := 0) C dX8_allPoints_39 rfl rfl ?_
      refine zq_getr C fk_X8_7 sm0 rfl dX8_allPoints_40 ?_
      refine zq_bipush (x := 121) C dX8_allPoints_43 bi_121 ik_121 ?_
      refine zq_iald C sm1 (by decide) (by decide) dX8_allPoints_45 ?_
      obtain ⟨h4, h4', hJ⟩ := hJ
      refine zq_irem C dX8_allPoints_46 h4 h4' ?_
      refine zq_callVi C [zi (x2 / (M 1 121)), zi (x2 % (M 1 121))] (wM_points l _ _ _  hJ) ck_X8_101 iv_X8_points rfl sm0 rfl rfl rfl rfl rfl rfl dX8_allPoints_47 (fun r5 N6 hN6 => ?_)
      obtain ⟨rfl, hJ⟩ := hN6
      obtain ⟨h7, hJ⟩ := hJ
      refine zq_iadd C dX8_allPoints_50 h7 ?_
      refine zq_istoreN_n (i := 1) C (fun v => [some (zr 0), some (zi v), some (zi x2)]) dX8_allPoints_51 rfl (Nat.le_of_ble_eq_true rfl) (fun _ => rfl) (fun v1_8 hv1_8 => ?_)
      have hJ := hJ v1_8 hv1_8
      obtain ⟨hv2_9, hJ⟩ := hJ
      refine zq_iinc (y := x2 + 1) (lv' := [some (zr 0), some (zi v1_8), some (zi (x2 + 1))]) C dX8_allPoints_52 rfl rfl hv2_9 rfl ?_
      obtain ⟨v2_9, ev2_9⟩ : ∃ z, z = x2 + 1 := ⟨_, rfl⟩
      rw [← ev2_9]
      have hJ := hJ v2_9 ev2_9
      refine zq_goto (tgt := 8) C dX8_allPoints_55 rfl ?_
      exact hK8 _ hJ
  refine zq_aload_n (i := 0) C dX8_allPoints_0 rfl rfl ?_
  refine zq_callVv C [] (wM_layBends l _  hJ) ck_X8_98 iv_X8_layBends rfl sm0 rfl rfl rfl rfl rfl rfl dX8_allPoints_1 (fun M1 hJ => ?_)
  refine zq_iconst (x := 0) C dX8_allPoints_4 rfl ik_0 ?_
  refine zq_istore_n (i := 1) (lv' := [some (zr 0), some (zi 0), none]) C dX8_allPoints_5 rfl (Nat.le_of_ble_eq_true rfl) rfl ?_
  refine zq_iconst (x := 0) C dX8_allPoints_6 rfl ik_0 ?_
  refine zq_istore_n (i := 2) (lv' := [some (zr 0), some (zi 0), some (zi 0)]) C dX8_allPoints_7 rfl (Nat.le_of_ble_eq_true rfl) rfl ?_
  exact hl8 _ _ hJ
set_option maxRecDepth 100000 in
set_option maxHeartbeats 4000000 in
theorem wM_pointsOf (l : Launch) (a1 : Int) (M : zM) {Φ : Int → zM → Prop} (hJ : jM_pointsOf a1 M Φ) : zMet l yX8_pointsOf cX8_pointsOf 4 (some .int) 6 139 shM [zr 0, zi a1] M (zI Φ) := by
  refine zq_enter [some (zr 0), some (zi a1), none, none] (by decide) rfl (Nat.le_of_ble_eq_true rfl) rfl (fun X C => ?_)
  unfold jM_pointsOf at hJ
  have hl8 : ∀ (M : zM) (s : Int × Int), zwh (fun K s => jM_pointsOf_L8 a1 K Φ M (s.1) (s.2)) s → zG X M 8 [some (zr 0), some (zi a1), some (zi (s.1)), some (zi (s.2))] [] := by
    intro M
    refine zwh_sound ?_
    intro K8 s hK8 hJ
    obtain ⟨x2, x3⟩ := s
    have hJ : jM_pointsOf_L8 a1 K8 Φ M x2 x3 := hJ
    show zG X M 8 [some (zr 0), some (zi a1), some (zi x2), some (zi x3)] []
    unfold jM_pointsOf_L8 at hJ
    refine zq_iload_n (i := 3) C dX8_pointsOf_8 rfl rfl ?_
    refine zq_aload_n (i := 0) C dX8_pointsOf_9 rfl rfl ?_
    refine zq_getr C fk_X8_7 sm0 rfl dX8_pointsOf_10 ?_
    refine zq_bipush (x := 121) C dX8_pointsOf_13 bi_121 ik_121 ?_
    refine zq_iald C sm1 (by decide) (by decide) dX8_pointsOf_15 ?_
    refine zq_icmp_ge (tgt := 41) C dX8_pointsOf_16 rfl (fun h10 => ?_) (fun h10 => ?_)
    · have hJ := hJ.1 h10
      refine zq_iload_n (i := 2) C dX8_pointsOf_41 rfl rfl ?_
      exact zq_iret C rfl ⟨_, rfl, hJ⟩ dX8_pointsOf_42
    · have hJ := hJ.2 h10
      refine zq_iload_n (i := 2) C dX8_pointsOf_19 rfl rfl ?_
      refine zq_aload_n (i := 0) C dX8_pointsOf_20 rfl rfl ?_
      refine zq_iload_n (i := 1) C dX8_pointsOf_21 rfl rfl ?_
      refine zq_iload_n (i := 3) C dX8_pointsOf_22 rfl rfl ?_
      refine zq_callVi C [zi a1, zi x3] (wM_points l _ _ _  hJ) ck_X8_101 iv_X8_points rfl sm0 rfl rfl rfl rfl rfl rfl dX8_pointsOf_23 (fun r2 N3 hN3 => ?_)
      obtain ⟨rfl, hJ⟩ := hN3
      refine zq_aload_n (i := 0) C dX8_pointsOf_26 rfl rfl ?_
      refine zq_iload_n (i := 3) C dX8_pointsOf_27 rfl rfl ?_
      refine zq_iload_n (i := 1) C dX8_pointsOf_28 rfl rfl ?_
      refine zq_callVi C [zi x3, zi a1] (wM_points l _ _ _  hJ) ck_X8_101 iv_X8_points rfl sm0 rfl rfl rfl rfl rfl rfl dX8_pointsOf_29 (fun r4 N5 hN5 => ?_)
      obtain ⟨rfl, hJ⟩ := hN5
      obtain ⟨h6, hJ⟩ := hJ
      refine zq_iadd C dX8_pointsOf_32 h6 ?_
      obtain ⟨h7, hJ⟩ := hJ
      refine zq_iadd C dX8_pointsOf_33 h7 ?_
      refine zq_istoreN_n (i := 2) C (fun v => [some (zr 0), some (zi a1), some (zi v), some (zi x3)]) dX8_pointsOf_34 rfl (Nat.le_of_ble_eq_true rfl) (fun _ => rfl) (fun v2_8 hv2_8 => ?_)
      have hJ := hJ v2_8 hv2_8
      obtain ⟨hv3_9, hJ⟩ := hJ
      refine zq_iinc (y := x3 + 1) (lv' := [some (zr 0), some (zi a1), some (zi v2_8), some (zi (x3 + 1))]) C dX8_pointsOf_35 rfl rfl hv3_9 rfl ?_
      obtain ⟨v3_9, ev3_9⟩ : ∃ z, z = x3 + 1 := ⟨_, rfl⟩
      rw [← ev3_9]
      have hJ := hJ v3_9 ev3_9
      refine zq_goto (tgt := 8) C dX8_pointsOf_38 rfl ?_
      exact hK8 _ hJ
  refine zq_aload_n (i := 0) C dX8_pointsOf_0 rfl rfl ?_
  refine zq_callVv C [] (wM_layBends l _  hJ) ck_X8_98 iv_X8_layBends rfl sm0 rfl rfl rfl rfl rfl rfl dX8_pointsOf_1 (fun M1 hJ => ?_)
  refine zq_iconst (x := 0) C dX8_pointsOf_4 rfl ik_0 ?_
  refine zq_istore_n (i := 2) (lv' := [some (zr 0), some (zi a1), some (zi 0), none]) C dX8_pointsOf_5 rfl (Nat.le_of_ble_eq_true rfl) rfl ?_
  refine zq_iconst (x := 0) C dX8_pointsOf_6 rfl ik_0 ?_
  refine zq_istore_n (i := 3) (lv' := [some (zr 0), some (zi a1), some (zi 0), some (zi 0)]) C dX8_pointsOf_7 rfl (Nat.le_of_ble_eq_true rfl) rfl ?_
  exact hl8 _ _ hJ
set_option maxRecDepth 100000 in
set_option maxHeartbeats 4000000 in
theorem wM_arrowsThat (l : Launch) (a1 : Int) (M : zM) {Φ : Int → Prop} (hJ : jM_arrowsThat a1 M Φ) : zMet l yX8_arrowsThat cX8_arrowsThat 4 (some .int) 5 118 shM [zr 0, zi a1] M (zI (fun z M' => M = M' ∧ Φ z)) := by
  refine zq_enter [some (zr 0), some (zi a1), none, none] (by decide) rfl (Nat.le_of_ble_eq_true rfl) rfl (fun X C => ?_)
  unfold jM_arrowsThat at hJ
  have hl4 : ∀ (s : Int × Int), zwh (fun K s => jM_arrowsThat_L4 a1 K Φ M (s.1) (s.2)) s → zG X M 4 [some (zr 0), some (zi a1), some (zi (s.1)), some (zi (s.2))] [] := by
    refine zwh_sound ?_
    intro K4 s hK4 hJ
    obtain ⟨x2, x3⟩ := s
    have hJ : jM_arrowsThat_L4 a1 K4 Φ M x2 x3 := hJ
    show zG X M 4 [some (zr 0), some (zi a1), some (zi x2), some (zi x3)] []
    unfold jM_arrowsThat_L4 at hJ
    have hj45 : ∀ (x3 s0 : Int), jM_arrowsThat_J45 a1 K4 Φ x3 s0 M → zG X M 45 [some (zr 0), some (zi a1), none, some (zi x3)] [zi s0] := by
      intro x3 s0 hJ
      unfold jM_arrowsThat_J45 at hJ
      refine zq_iconst (x := 0) C dX8_arrowsThat_45 rfl ik_0 ?_
      obtain ⟨h3, hJ⟩ := hJ
      refine zq_iadd C dX8_arrowsThat_46 h3 ?_
      refine zq_istoreN_n (i := 2) C (fun v => [some (zr 0), some (zi a1), some (zi v), some (zi x3)]) dX8_arrowsThat_47 rfl (Nat.le_of_ble_eq_true rfl) (fun _ => rfl) (fun v2_4 hv2_4 => ?_)
      have hJ := hJ v2_4 hv2_4
      obtain ⟨hv3_5, hJ⟩ := hJ
      refine zq_iinc (y := x3 + 1) (lv' := [some (zr 0), some (zi a1), some (zi v2_4), some (zi (x3 + 1))]) C dX8_arrowsThat_48 rfl rfl hv3_5 rfl ?_
      obtain ⟨v3_5, ev3_5⟩ : ∃ z, z = x3 + 1 := ⟨_, rfl⟩
      rw [← ev3_5]
      have hJ := hJ v3_5 ev3_5
      refine zq_goto (tgt := 4) C dX8_arrowsThat_51 rfl ?_
      exact hK4 _ hJ
    have hj41 : ∀ (x3 s0 : Int), jM_arrowsThat_J41 a1 K4 Φ x3 s0 M → zG X M 41 [some (zr 0), some (zi a1), none, some (zi x3)] [zi s0] := by
      intro x3 s0 hJ
      unfold jM_arrowsThat_J41 at hJ
      refine zq_iconst (x := 1) C dX8_arrowsThat_41 rfl ik_1 ?_
      refine zq_goto (tgt := 46) C dX8_arrowsThat_42 rfl ?_
      obtain ⟨h6, hJ⟩ := hJ
      refine zq_iadd C dX8_arrowsThat_46 h6 ?_
      refine zq_istoreN_n (i := 2) C (fun v => [some (zr 0), some (zi a1), some (zi v), some (zi x3)]) dX8_arrowsThat_47 rfl (Nat.le_of_ble_eq_true rfl) (fun _ => rfl) (fun v2_7 hv2_7 => ?_)
      have hJ := hJ v2_7 hv2_7
      obtain ⟨hv3_8, hJ⟩ := hJ
      refine zq_iinc (y := x3 + 1) (lv' := [some (zr 0), some (zi a1), some (zi v2_7), some (zi (x3 + 1))]) C dX8_arrowsThat_48 rfl rfl hv3_8 rfl ?_
      obtain ⟨v3_8, ev3_8⟩ : ∃ z, z = x3 + 1 := ⟨_, rfl⟩
      rw [← ev3_8]
      have hJ := hJ v3_8 ev3_8
      refine zq_goto (tgt := 4) C dX8_arrowsThat_51 rfl ?_
      exact hK4 _ hJ
    refine zq_iload_n (i := 3) C dX8_arrowsThat_4 rfl rfl ?_
    refine zq_aload_n (i := 0) C dX8_arrowsThat_5 rfl rfl ?_
    refine zq_getr C fk_X8_7 sm0 rfl dX8_arrowsThat_6 ?_
    refine zq_bipush (x := 121) C dX8_arrowsThat_9 bi_121 ik_121 ?_
    refine zq_iald C sm1 (by decide) (by decide) dX8_arrowsThat_11 ?_
    refine zq_icmp_ge (tgt := 54) C dX8_arrowsThat_12 rfl (fun h14 => ?_) (fun h14 => ?_)
    · have hJ := hJ.1 h14
      refine zq_iload_n (i := 2) C dX8_arrowsThat_54 rfl rfl ?_
      exact zq_iret C rfl ⟨_, rfl, rfl, hJ⟩ dX8_arrowsThat_55
    · have hJ := hJ.2 h14
      refine zq_iload_n (i := 2) C dX8_arrowsThat_15 rfl rfl ?_
      refine zq_iload_n (i := 1) C dX8_arrowsThat_16 rfl rfl ?_
      refine zq_if_eq (tgt := 31) C dX8_arrowsThat_17 rfl (fun h13 => ?_) (fun h13 => ?_)
      · have hJ := hJ.1 h13
        refine zq_aload_n (i := 0) C dX8_arrowsThat_31 rfl rfl ?_
        refine zq_iload_n (i := 3) C dX8_arrowsThat_32 rfl rfl ?_
        refine zq_callVi C [zi x3] (wM_bend l _ _  hJ) ck_X8_92 iv_X8_bend rfl sm0 rfl rfl rfl rfl rfl rfl dX8_arrowsThat_33 (fun r1 N2 hN2 => ?_)
        obtain ⟨rfl, hJ⟩ := hN2
        refine zq_bipush (x := (-5)) C dX8_arrowsThat_36 bi_m5 ik_m5 ?_
        refine zq_icmp_ne (tgt := 45) C dX8_arrowsThat_38 rfl (fun h9 => ?_) (fun h9 => ?_)
        · have hJ := hJ.1 h9
          refine zq_weak [some (zr 0), some (zi a1), none, some (zi x3)] ⟨Or.inr rfl, Or.inr rfl, Or.inl rfl, Or.inr rfl, trivial⟩ ?_
          exact hj45 _ _ hJ
        · have hJ := hJ.2 h9
          refine zq_weak [some (zr 0), some (zi a1), none, some (zi x3)] ⟨Or.inr rfl, Or.inr rfl, Or.inl rfl, Or.inr rfl, trivial⟩ ?_
          exact hj41 _ _ hJ
      · have hJ := hJ.2 h13
        refine zq_aload_n (i := 0) C dX8_arrowsThat_20 rfl rfl ?_
        refine zq_iload_n (i := 3) C dX8_arrowsThat_21 rfl rfl ?_
        refine zq_callVi C [zi x3] (wM_lateBy l _ _  hJ) ck_X8_104 iv_X8_lateBy rfl sm0 rfl rfl rfl rfl rfl rfl dX8_arrowsThat_22 (fun r10 N11 hN11 => ?_)
        obtain ⟨rfl, hJ⟩ := hN11
        refine zq_if_le (tgt := 45) C dX8_arrowsThat_25 rfl (fun h12 => ?_) (fun h12 => ?_)
        · have hJ := hJ.1 h12
          refine zq_weak [some (zr 0), some (zi a1), none, some (zi x3)] ⟨Or.inr rfl, Or.inr rfl, Or.inl rfl, Or.inr rfl, trivial⟩ ?_
          exact hj45 _ _ hJ
        · have hJ := hJ.2 h12
          refine zq_goto (tgt := 41) C dX8_arrowsThat_28 rfl ?_
          refine zq_weak [some (zr 0), some (zi a1), none, some (zi x3)] ⟨Or.inr rfl, Or.inr rfl, Or.inl rfl, Or.inr rfl, trivial⟩ ?_
          exact hj41 _ _ hJ
  refine zq_iconst (x := 0) C dX8_arrowsThat_0 rfl ik_0 ?_
  refine zq_istore_n (i := 2) (lv' := [some (zr 0), some (zi a1), some (zi 0), none]) C dX8_arrowsThat_1 rfl (Nat.le_of_ble_eq_true rfl) rfl ?_
  refine zq_iconst (x := 0) C dX8_arrowsThat_2 rfl ik_0 ?_
  refine zq_istore_n (i := 3) (lv' := [some (zr 0), some (zi a1), some (zi 0), some (zi 0)]) C dX8_arrowsThat_3 rfl (Nat.le_of_ble_eq_true rfl) rfl ?_
  exact hl4 _ hJ
set_option maxRecDepth 100000 in
set_option maxHeartbeats 4000000 in
theorem wM_notDrawn (l : Launch)  (M : zM) {Φ : Int → Prop} (hJ : jM_notDrawn  M Φ) : zMet l yX8_notDrawn cX8_notDrawn 1 (some .int) 6 141 shM [zr 0] M (zI (fun z M' => M = M' ∧ Φ z)) := by
  refine zq_enter [some (zr 0)] (by decide) rfl (Nat.le_of_ble_eq_true rfl) rfl (fun X C => ?_)
  unfold jM_notDrawn at hJ
  refine zq_aload_n (i := 0) C dX8_notDrawn_0 rfl rfl ?_
  refine zq_iconst (x := 0) C dX8_notDrawn_1 rfl ik_0 ?_
  refine zq_callVi C [zi 0] (wM_arrowsThat l _ _  hJ) ck_X8_107 iv_X8_arrowsThat rfl sm0 rfl rfl rfl rfl rfl rfl dX8_notDrawn_2 (fun r1 N2 hN2 => ?_)
  obtain ⟨rfl, hJ⟩ := hN2
  exact zq_iret C rfl ⟨_, rfl, rfl, hJ⟩ dX8_notDrawn_5
set_option maxRecDepth 100000 in
set_option maxHeartbeats 4000000 in
theorem wM_widthOf (l : Launch) (a1 a2 : Int) (M : zM) {Φ : Int → Prop} (hJ : jM_widthOf a1 a2 M Φ) : zMet l yX8_widthOf cX8_widthOf 5 (some .int) 0 0 shM [zr 0, zi a1, zi a2] M (zI (fun z M' => M = M' ∧ Φ z)) := by
  refine zq_enter [some (zr 0), some (zi a1), some (zi a2), none, none] (by decide) rfl (Nat.le_of_ble_eq_true rfl) rfl (fun X C => ?_)
  unfold jM_widthOf at hJ
  have hl5 : ∀ (s : Int × Int), zwh (fun K s => jM_widthOf_L5 a1 a2 K Φ M (s.1) (s.2)) s → zG X M 5 [some (zr 0), some (zi a1), some (zi a2), some (zi (s.1)), some (zi (s.2))] [] := by
    refine zwh_sound ?_
    intro K5 s hK5 hJ
    obtain ⟨x3, x4⟩ := s
    have hJ : jM_widthOf_L5 a1 a2 K5 Φ M x3 x4 := hJ
    show zG X M 5 [some (zr 0), some (zi a1), some (zi a2), some (zi x3), some (zi x4)] []
    unfold jM_widthOf_L5 at hJ
    refine zq_iload C dX8_widthOf_5 rfl ?_
    refine zq_iload_n (i := 2) C dX8_widthOf_7 rfl rfl ?_
    refine zq_icmp_ge (tgt := 31) C dX8_widthOf_8 rfl (fun h6 => ?_) (fun h6 => ?_)
    · have hJ := hJ.1 h6
      refine zq_iload_n (i := 3) C dX8_widthOf_31 rfl rfl ?_
      exact zq_iret C rfl ⟨_, rfl, rfl, hJ⟩ dX8_widthOf_32
    · have hJ := hJ.2 h6
      refine zq_iload_n (i := 3) C dX8_widthOf_11 rfl rfl ?_
      refine zq_aload_n (i := 0) C dX8_widthOf_12 rfl rfl ?_
      refine zq_getr C fk_X8_7 sm0 rfl dX8_widthOf_13 ?_
      refine zq_sipush (x := 242) C dX8_widthOf_16 si_242 ik_242 ?_
      refine zq_iload C dX8_widthOf_19 rfl ?_
      obtain ⟨h1, hJ⟩ := hJ
      refine zq_iadd C dX8_widthOf_21 h1 ?_
      obtain ⟨h2, h2', hJ⟩ := hJ
      refine zq_iald C sm1 h2 h2' dX8_widthOf_22 ?_
      obtain ⟨h3, hJ⟩ := hJ
      refine zq_iadd C dX8_widthOf_23 h3 ?_
      refine zq_istoreN_n (i := 3) C (fun v => [some (zr 0), some (zi a1), some (zi a2), some (zi v), some (zi x4)]) dX8_widthOf_24 rfl (Nat.le_of_ble_eq_true rfl) (fun _ => rfl) (fun v3_4 hv3_4 => ?_)
      have hJ := hJ v3_4 hv3_4
      obtain ⟨hv4_5, hJ⟩ := hJ
      refine zq_iinc (y := x4 + 1) (lv' := [some (zr 0), some (zi a1), some (zi a2), some (zi v3_4), some (zi (x4 + 1))]) C dX8_widthOf_25 rfl rfl hv4_5 rfl ?_
      obtain ⟨v4_5, ev4_5⟩ : ∃ z, z = x4 + 1 := ⟨_, rfl⟩
      rw [← ev4_5]
      have hJ := hJ v4_5 ev4_5
      refine zq_goto (tgt := 5) C dX8_widthOf_28 rfl ?_
      exact hK5 _ hJ
  refine zq_iconst (x := 0) C dX8_widthOf_0 rfl ik_0 ?_
  refine zq_istore_n (i := 3) (lv' := [some (zr 0), some (zi a1), some (zi a2), some (zi 0), none]) C dX8_widthOf_1 rfl (Nat.le_of_ble_eq_true rfl) rfl ?_
  refine zq_iload_n (i := 1) C dX8_widthOf_2 rfl rfl ?_
  refine zq_istore (lv' := [some (zr 0), some (zi a1), some (zi a2), some (zi 0), some (zi a1)]) C dX8_widthOf_3 (Nat.le_of_ble_eq_true rfl) rfl ?_
  exact hl5 _ hJ
set_option maxRecDepth 100000 in
set_option maxHeartbeats 4000000 in
theorem wM_stripEnd (l : Launch) (a1 : Int) (M : zM) {Φ : Int → Prop} (hJ : jM_stripEnd a1 M Φ) : zMet l yX8_stripEnd cX8_stripEnd 4 (some .int) 3 65 shM [zr 0, zi a1] M (zI (fun z M' => M = M' ∧ Φ z)) := by
  refine zq_enter [some (zr 0), some (zi a1), none, none] (by decide) rfl (Nat.le_of_ble_eq_true rfl) rfl (fun X C => ?_)
  unfold jM_stripEnd at hJ
  have hl9 : ∀ (x2 : Int) (s : Int), zwh (fun K s => jM_stripEnd_L9 a1 K Φ x2 M (s)) s → zG X M 9 [some (zr 0), some (zi a1), some (zi x2), some (zi s)] [] := by
    intro x2
    refine zwh_sound ?_
    intro K9 s hK9 hJ
    obtain ⟨x3, rfl⟩ : ∃ z, z = s := ⟨_, rfl⟩
    have hJ : jM_stripEnd_L9 a1 K9 Φ x2 M x3 := hJ
    show zG X M 9 [some (zr 0), some (zi a1), some (zi x2), some (zi x3)] []
    unfold jM_stripEnd_L9 at hJ
    refine zq_iload_n (i := 3) C dX8_stripEnd_9 rfl rfl ?_
    refine zq_iload_n (i := 2) C dX8_stripEnd_10 rfl rfl ?_
    refine zq_icmp_ge (tgt := 39) C dX8_stripEnd_11 rfl (fun h10 => ?_) (fun h10 => ?_)
    · have hJ := hJ.1 h10
      refine zq_iload_n (i := 3) C dX8_stripEnd_39 rfl rfl ?_
      exact zq_iret C rfl ⟨_, rfl, rfl, hJ⟩ dX8_stripEnd_40
    · have hJ := hJ.2 h10
      refine zq_aload_n (i := 0) C dX8_stripEnd_14 rfl rfl ?_
      refine zq_iload_n (i := 1) C dX8_stripEnd_15 rfl rfl ?_
      refine zq_iload_n (i := 3) C dX8_stripEnd_16 rfl rfl ?_
      refine zq_iconst (x := 1) C dX8_stripEnd_17 rfl ik_1 ?_
      obtain ⟨h5, hJ⟩ := hJ
      refine zq_iadd C dX8_stripEnd_18 h5 ?_
      refine zq_callVi C [zi a1, zi (x3 + 1)] (wM_widthOf l _ _ _  hJ) ck_X8_115 iv_X8_widthOf rfl sm0 rfl rfl rfl rfl rfl rfl dX8_stripEnd_19 (fun r6 N7 hN7 => ?_)
      obtain ⟨rfl, hJ⟩ := hN7
      refine zq_aload_n (i := 0) C dX8_stripEnd_22 rfl rfl ?_
      refine zq_getr C fk_X8_7 sm0 rfl dX8_stripEnd_23 ?_
      refine zq_sipush (x := 443) C dX8_stripEnd_26 si_443 ik_443 ?_
      refine zq_iald C sm1 (by decide) (by decide) dX8_stripEnd_29 ?_
      refine zq_icmp_gt (tgt := 39) C dX8_stripEnd_30 rfl (fun h9 => ?_) (fun h9 => ?_)
      · have hJ := hJ.1 h9
        refine zq_iload_n (i := 3) C dX8_stripEnd_39 rfl rfl ?_
        exact zq_iret C rfl ⟨_, rfl, rfl, hJ⟩ dX8_stripEnd_40
      · have hJ := hJ.2 h9
        obtain ⟨hv3_8, hJ⟩ := hJ
        refine zq_iinc (y := x3 + 1) (lv' := [some (zr 0), some (zi a1), some (zi x2), some (zi (x3 + 1))]) C dX8_stripEnd_33 rfl rfl hv3_8 rfl ?_
        obtain ⟨v3_8, ev3_8⟩ : ∃ z, z = x3 + 1 := ⟨_, rfl⟩
        rw [← ev3_8]
        have hJ := hJ v3_8 ev3_8
        refine zq_goto (tgt := 9) C dX8_stripEnd_36 rfl ?_
        exact hK9 _ hJ
  refine zq_aload_n (i := 0) C dX8_stripEnd_0 rfl rfl ?_
  refine zq_callVi C [] (wM_greatestEnd l _  hJ) ck_X8_111 iv_X8_greatestEnd rfl sm0 rfl rfl rfl rfl rfl rfl dX8_stripEnd_1 (fun r1 N2 hN2 => ?_)
  obtain ⟨rfl, hJ⟩ := hN2
  refine zq_istore_n (i := 2) (lv' := [some (zr 0), some (zi a1), some (zi r1), none]) C dX8_stripEnd_4 rfl (Nat.le_of_ble_eq_true rfl) rfl ?_
  refine zq_iload_n (i := 1) C dX8_stripEnd_5 rfl rfl ?_
  refine zq_iconst (x := 1) C dX8_stripEnd_6 rfl ik_1 ?_
  obtain ⟨h3, hJ⟩ := hJ
  refine zq_iadd C dX8_stripEnd_7 h3 ?_
  refine zq_istoreN_n (i := 3) C (fun v => [some (zr 0), some (zi a1), some (zi r1), some (zi v)]) dX8_stripEnd_8 rfl (Nat.le_of_ble_eq_true rfl) (fun _ => rfl) (fun v3_4 hv3_4 => ?_)
  have hJ := hJ v3_4 hv3_4
  exact hl9 _ _ hJ
set_option maxRecDepth 100000 in
set_option maxHeartbeats 4000000 in
theorem wM_stripStart (l : Launch) (a1 : Int) (M : zM) {Φ : Int → Prop} (hJ : jM_stripStart a1 M Φ) : zMet l yX8_stripStart cX8_stripStart 4 (some .int) 4 88 shM [zr 0, zi a1] M (zI (fun z M' => M = M' ∧ Φ z)) := by
  refine zq_enter [some (zr 0), some (zi a1), none, none] (by decide) rfl (Nat.le_of_ble_eq_true rfl) rfl (fun X C => ?_)
  unfold jM_stripStart at hJ
  have hj29 : ∀ (x2 : Int), jM_stripStart_J29 a1 Φ x2 M → zG X M 29 [some (zr 0), some (zi a1), some (zi x2), none] [] := by
    intro x2 hJ
    unfold jM_stripStart_J29 at hJ
    refine zq_iload_n (i := 2) C dX8_stripStart_29 rfl rfl ?_
    refine zq_aload_n (i := 0) C dX8_stripStart_30 rfl rfl ?_
    refine zq_callVi C [] (wM_greatestEnd l _  hJ) ck_X8_111 iv_X8_greatestEnd rfl sm0 rfl rfl rfl rfl rfl rfl dX8_stripStart_31 (fun r1 N2 hN2 => ?_)
    obtain ⟨rfl, hJ⟩ := hN2
    refine zq_icmp_ge (tgt := 41) C dX8_stripStart_34 rfl (fun h3 => ?_) (fun h3 => ?_)
    · have hJ := hJ.1 h3
      refine zq_bipush (x := (-5)) C dX8_stripStart_41 bi_m5 ik_m5 ?_
      exact zq_iret C rfl ⟨_, rfl, rfl, hJ⟩ dX8_stripStart_43
    · have hJ := hJ.2 h3
      refine zq_iload_n (i := 2) C dX8_stripStart_37 rfl rfl ?_
      refine zq_goto (tgt := 43) C dX8_stripStart_38 rfl ?_
      exact zq_iret C rfl ⟨_, rfl, rfl, hJ⟩ dX8_stripStart_43
  have hl4 : ∀ (s : Int × Int), zwh (fun K s => jM_stripStart_L4 a1 K Φ M (s.1) (s.2)) s → zG X M 4 [some (zr 0), some (zi a1), some (zi (s.1)), some (zi (s.2))] [] := by
    refine zwh_sound ?_
    intro K4 s hK4 hJ
    obtain ⟨x2, x3⟩ := s
    have hJ : jM_stripStart_L4 a1 K4 Φ M x2 x3 := hJ
    show zG X M 4 [some (zr 0), some (zi a1), some (zi x2), some (zi x3)] []
    unfold jM_stripStart_L4 at hJ
    refine zq_iload_n (i := 3) C dX8_stripStart_4 rfl rfl ?_
    refine zq_iload_n (i := 1) C dX8_stripStart_5 rfl rfl ?_
    refine zq_icmp_ge (tgt := 29) C dX8_stripStart_6 rfl (fun h10 => ?_) (fun h10 => ?_)
    · have hJ := hJ.1 h10
      refine zq_weak [some (zr 0), some (zi a1), some (zi x2), none] ⟨Or.inr rfl, Or.inr rfl, Or.inr rfl, Or.inl rfl, trivial⟩ ?_
      exact hj29 _ hJ
    · have hJ := hJ.2 h10
      refine zq_iload_n (i := 2) C dX8_stripStart_9 rfl rfl ?_
      refine zq_aload_n (i := 0) C dX8_stripStart_10 rfl rfl ?_
      refine zq_callVi C [] (wM_greatestEnd l _  hJ) ck_X8_111 iv_X8_greatestEnd rfl sm0 rfl rfl rfl rfl rfl rfl dX8_stripStart_11 (fun r4 N5 hN5 => ?_)
      obtain ⟨rfl, hJ⟩ := hN5
      refine zq_icmp_ge (tgt := 29) C dX8_stripStart_14 rfl (fun h9 => ?_) (fun h9 => ?_)
      · have hJ := hJ.1 h9
        refine zq_weak [some (zr 0), some (zi a1), some (zi x2), none] ⟨Or.inr rfl, Or.inr rfl, Or.inr rfl, Or.inl rfl, trivial⟩ ?_
        exact hj29 _ hJ
      · have hJ := hJ.2 h9
        refine zq_aload_n (i := 0) C dX8_stripStart_17 rfl rfl ?_
        refine zq_iload_n (i := 2) C dX8_stripStart_18 rfl rfl ?_
        refine zq_callVi C [zi x2] (wM_stripEnd l _ _  hJ) ck_X8_118 iv_X8_stripEnd rfl sm0 rfl rfl rfl rfl rfl rfl dX8_stripStart_19 (fun r6 N7 hN7 => ?_)
        obtain ⟨rfl, hJ⟩ := hN7
        refine zq_istore_n (i := 2) (lv' := [some (zr 0), some (zi a1), some (zi r6), some (zi x3)]) C dX8_stripStart_22 rfl (Nat.le_of_ble_eq_true rfl) rfl ?_
        obtain ⟨hv3_8, hJ⟩ := hJ
        refine zq_iinc (y := x3 + 1) (lv' := [some (zr 0), some (zi a1), some (zi r6), some (zi (x3 + 1))]) C dX8_stripStart_23 rfl rfl hv3_8 rfl ?_
        obtain ⟨v3_8, ev3_8⟩ : ∃ z, z = x3 + 1 := ⟨_, rfl⟩
        rw [← ev3_8]
        have hJ := hJ v3_8 ev3_8
        refine zq_goto (tgt := 4) C dX8_stripStart_26 rfl ?_
        exact hK4 _ hJ
  refine zq_iconst (x := 0) C dX8_stripStart_0 rfl ik_0 ?_
  refine zq_istore_n (i := 2) (lv' := [some (zr 0), some (zi a1), some (zi 0), none]) C dX8_stripStart_1 rfl (Nat.le_of_ble_eq_true rfl) rfl ?_
  refine zq_iconst (x := 0) C dX8_stripStart_2 rfl ik_0 ?_
  refine zq_istore_n (i := 3) (lv' := [some (zr 0), some (zi a1), some (zi 0), some (zi 0)]) C dX8_stripStart_3 rfl (Nat.le_of_ble_eq_true rfl) rfl ?_
  exact hl4 _ hJ
set_option maxRecDepth 100000 in
set_option maxHeartbeats 4000000 in
theorem wM_stripOf (l : Launch) (a1 : Int) (M : zM) {Φ : Int → Prop} (hJ : jM_stripOf a1 M Φ) : zMet l yX8_stripOf cX8_stripOf 4 (some .int) 4 88 shM [zr 0, zi a1] M (zI (fun z M' => M = M' ∧ Φ z)) := by
  refine zq_enter [some (zr 0), some (zi a1), none, none] (by decide) rfl (Nat.le_of_ble_eq_true rfl) rfl (fun X C => ?_)
  unfold jM_stripOf at hJ
  have hl8 : ∀ (s : Int × Int), zwh (fun K s => jM_stripOf_L8 a1 K Φ M (s.1) (s.2)) s → zG X M 8 [some (zr 0), some (zi a1), some (zi (s.1)), some (zi (s.2))] [] := by
    refine zwh_sound ?_
    intro K8 s hK8 hJ
    obtain ⟨x2, x3⟩ := s
    have hJ : jM_stripOf_L8 a1 K8 Φ M x2 x3 := hJ
    show zG X M 8 [some (zr 0), some (zi a1), some (zi x2), some (zi x3)] []
    unfold jM_stripOf_L8 at hJ
    refine zq_iload_n (i := 3) C dX8_stripOf_8 rfl rfl ?_
    refine zq_iload_n (i := 1) C dX8_stripOf_9 rfl rfl ?_
    refine zq_icmp_gt (tgt := 25) C dX8_stripOf_10 rfl (fun h6 => ?_) (fun h6 => ?_)
    · have hJ := hJ.1 h6
      refine zq_iload_n (i := 2) C dX8_stripOf_25 rfl rfl ?_
      exact zq_iret C rfl ⟨_, rfl, rfl, hJ⟩ dX8_stripOf_26
    · have hJ := hJ.2 h6
      refine zq_aload_n (i := 0) C dX8_stripOf_13 rfl rfl ?_
      refine zq_iload_n (i := 3) C dX8_stripOf_14 rfl rfl ?_
      refine zq_callVi C [zi x3] (wM_stripEnd l _ _  hJ) ck_X8_118 iv_X8_stripEnd rfl sm0 rfl rfl rfl rfl rfl rfl dX8_stripOf_15 (fun r3 N4 hN4 => ?_)
      obtain ⟨rfl, hJ⟩ := hN4
      refine zq_istore_n (i := 3) (lv' := [some (zr 0), some (zi a1), some (zi x2), some (zi r3)]) C dX8_stripOf_18 rfl (Nat.le_of_ble_eq_true rfl) rfl ?_
      obtain ⟨hv2_5, hJ⟩ := hJ
      refine zq_iinc (y := x2 + 1) (lv' := [some (zr 0), some (zi a1), some (zi (x2 + 1)), some (zi r3)]) C dX8_stripOf_19 rfl rfl hv2_5 rfl ?_
      obtain ⟨v2_5, ev2_5⟩ : ∃ z, z = x2 + 1 := ⟨_, rfl⟩
      rw [← ev2_5]
      have hJ := hJ v2_5 ev2_5
      refine zq_goto (tgt := 8) C dX8_stripOf_22 rfl ?_
      exact hK8 _ hJ
  refine zq_iconst (x := 0) C dX8_stripOf_0 rfl ik_0 ?_
  refine zq_istore_n (i := 2) (lv' := [some (zr 0), some (zi a1), some (zi 0), none]) C dX8_stripOf_1 rfl (Nat.le_of_ble_eq_true rfl) rfl ?_
  refine zq_aload_n (i := 0) C dX8_stripOf_2 rfl rfl ?_
  refine zq_iconst (x := 0) C dX8_stripOf_3 rfl ik_0 ?_
  refine zq_callVi C [zi 0] (wM_stripEnd l _ _  hJ) ck_X8_118 iv_X8_stripEnd rfl sm0 rfl rfl rfl rfl rfl rfl dX8_stripOf_4 (fun r1 N2 hN2 => ?_)
  obtain ⟨rfl, hJ⟩ := hN2
  refine zq_istore_n (i := 3) (lv' := [some (zr 0), some (zi a1), some (zi 0), some (zi r1)]) C dX8_stripOf_7 rfl (Nat.le_of_ble_eq_true rfl) rfl ?_
  exact hl8 _ hJ
set_option maxRecDepth 100000 in
set_option maxHeartbeats 4000000 in
theorem wM_strips (l : Launch)  (M : zM) {Φ : Int → Prop} (hJ : jM_strips  M Φ) : zMet l yX8_strips cX8_strips 1 (some .int) 5 111 shM [zr 0] M (zI (fun z M' => M = M' ∧ Φ z)) := by
  refine zq_enter [some (zr 0)] (by decide) rfl (Nat.le_of_ble_eq_true rfl) rfl (fun X C => ?_)
  unfold jM_strips at hJ
  refine zq_aload_n (i := 0) C dX8_strips_0 rfl rfl ?_
  refine zq_callVi C [] (wM_greatestEnd l _  hJ) ck_X8_111 iv_X8_greatestEnd rfl sm0 rfl rfl rfl rfl rfl rfl dX8_strips_1 (fun r1 N2 hN2 => ?_)
  obtain ⟨rfl, hJ⟩ := hN2
  refine zq_if_ne (tgt := 11) C dX8_strips_4 rfl (fun h9 => ?_) (fun h9 => ?_)
  · have hJ := hJ.1 h9
    refine zq_aload_n (i := 0) C dX8_strips_11 rfl rfl ?_
    refine zq_aload_n (i := 0) C dX8_strips_12 rfl rfl ?_
    refine zq_callVi C [] (wM_greatestEnd l _  hJ) ck_X8_111 iv_X8_greatestEnd rfl sm0 rfl rfl rfl rfl rfl rfl dX8_strips_13 (fun r3 N4 hN4 => ?_)
    obtain ⟨rfl, hJ⟩ := hN4
    refine zq_iconst (x := 1) C dX8_strips_16 rfl ik_1 ?_
    obtain ⟨h5, hJ⟩ := hJ
    refine zq_isub C dX8_strips_17 h5 ?_
    refine zq_callVi C [zi (r3 - 1)] (wM_stripOf l _ _  hJ) ck_X8_121 iv_X8_stripOf rfl sm0 rfl rfl rfl rfl rfl rfl dX8_strips_18 (fun r6 N7 hN7 => ?_)
    obtain ⟨rfl, hJ⟩ := hN7
    refine zq_iconst (x := 1) C dX8_strips_21 rfl ik_1 ?_
    obtain ⟨h8, hJ⟩ := hJ
    refine zq_iadd C dX8_strips_22 h8 ?_
    exact zq_iret C rfl ⟨_, rfl, rfl, hJ⟩ dX8_strips_23
  · have hJ := hJ.2 h9
    refine zq_iconst (x := 0) C dX8_strips_7 rfl ik_0 ?_
    refine zq_goto (tgt := 23) C dX8_strips_8 rfl ?_
    exact zq_iret C rfl ⟨_, rfl, rfl, hJ⟩ dX8_strips_23
set_option maxRecDepth 100000 in
set_option maxHeartbeats 4000000 in
theorem wM_layPushes (l : Launch)  (M : zM) {Φ : zM → Prop} (hJ : jM_layPushes  M Φ) : zMet l yX8_layPushes cX8_layPushes 5 none 4 86 shM [zr 0] M (zU Φ) := by
  refine zq_enter [some (zr 0), none, none, none, none] (by decide) rfl (Nat.le_of_ble_eq_true rfl) rfl (fun X C => ?_)
  unfold jM_layPushes at hJ
  have hl82 : ∀ (s : Int × zM), zwh (fun K s => jM_layPushes_L82  K Φ (s.1) (s.2)) s → zG X (s.2) 82 [some (zr 0), none, some (zi (s.1)), none, none] [] := by
    refine zwh_sound ?_
    intro K82 s hK82 hJ
    obtain ⟨x2, M⟩ := s
    have hJ : jM_layPushes_L82  K82 Φ x2 M := hJ
    show zG X M 82 [some (zr 0), none, some (zi x2), none, none] []
    unfold jM_layPushes_L82 at hJ
    have hj135 : ∀ (x2 s1 s2 : Int) (M : zM), jM_layPushes_J135 K82 Φ x2 s1 s2 M → zG X M 135 [some (zr 0), none, some (zi x2), none, none] [zi s2, zi s1, zr 7] := by
      intro x2 s1 s2 M hJ
      unfold jM_layPushes_J135 at hJ
      obtain ⟨h11, h11', hJ⟩ := hJ
      obtain ⟨h12, hJ⟩ := hJ
      refine zq_zast C sm7 h11 h11' h12 dX8_layPushes_135 (fun M13 hM13 => ?_)
      have hJ := hJ M13 hM13
      obtain ⟨hv2_14, hJ⟩ := hJ
      refine zq_iinc (y := x2 + 1) (lv' := [some (zr 0), none, some (zi (x2 + 1)), none, none]) C dX8_layPushes_136 rfl rfl hv2_14 rfl ?_
      obtain ⟨v2_14, ev2_14⟩ : ∃ z, z = x2 + 1 := ⟨_, rfl⟩
      rw [← ev2_14]
      have hJ := hJ v2_14 ev2_14
      refine zq_goto (tgt := 82) C dX8_layPushes_139 rfl ?_
      exact hK82 _ hJ
    have hj130 : ∀ (x2 s1 : Int) (M : zM), jM_layPushes_J130 K82 Φ x2 s1 M → zG X M 130 [some (zr 0), none, some (zi x2), none, none] [zi s1, zr 7] := by
      intro x2 s1 M hJ
      unfold jM_layPushes_J130 at hJ
      refine zq_iconst (x := 1) C dX8_layPushes_130 rfl ik_1 ?_
      refine zq_goto (tgt := 135) C dX8_layPushes_131 rfl ?_
      exact hj135 _ _ _ _ hJ
    refine zq_iload_n (i := 2) C dX8_layPushes_82 rfl rfl ?_
    refine zq_aload_n (i := 0) C dX8_layPushes_83 rfl rfl ?_
    refine zq_getr C fk_X8_7 sm0 rfl dX8_layPushes_84 ?_
    refine zq_bipush (x := 121) C dX8_layPushes_87 bi_121 ik_121 ?_
    refine zq_iald C sm1 (by decide) (by decide) dX8_layPushes_89 ?_
    refine zq_icmp_ge (tgt := 142) C dX8_layPushes_90 rfl (fun h19 => ?_) (fun h19 => ?_)
    · have hJ := hJ.1 h19
      exact zq_vret C rfl hJ dX8_layPushes_142
    · have hJ := hJ.2 h19
      refine zq_bipush (x := 30) C dX8_layPushes_93 bi_30 ik_30 ?_
      refine zq_aload_n (i := 0) C dX8_layPushes_95 rfl rfl ?_
      refine zq_iload_n (i := 2) C dX8_layPushes_96 rfl rfl ?_
      refine zq_callVi C [zi x2] (wM_from l _ _  hJ) ck_X8_70 iv_X8_from rfl sm0 rfl rfl rfl rfl rfl rfl dX8_layPushes_97 (fun r3 N4 hN4 => ?_)
      obtain ⟨rfl, hJ⟩ := hN4
      obtain ⟨h5, hJ⟩ := hJ
      refine zq_imul C dX8_layPushes_100 h5 ?_
      refine zq_aload_n (i := 0) C dX8_layPushes_101 rfl rfl ?_
      refine zq_iload_n (i := 2) C dX8_layPushes_102 rfl rfl ?_
      refine zq_callVi C [zi x2] (wM_to l _ _  hJ) ck_X8_73 iv_X8_to rfl sm0 rfl rfl rfl rfl rfl rfl dX8_layPushes_103 (fun r6 N7 hN7 => ?_)
      obtain ⟨rfl, hJ⟩ := hN7
      obtain ⟨h8, hJ⟩ := hJ
      refine zq_iadd C dX8_layPushes_106 h8 ?_
      refine zq_istoreN_n (i := 3) C (fun v => [some (zr 0), none, some (zi x2), some (zi v), none]) dX8_layPushes_107 rfl (Nat.le_of_ble_eq_true rfl) (fun _ => rfl) (fun v3_9 hv3_9 => ?_)
      have hJ := hJ v3_9 hv3_9
      refine zq_aload_n (i := 0) C dX8_layPushes_108 rfl rfl ?_
      refine zq_getr C fk_X8_28 sm0 rfl dX8_layPushes_109 ?_
      refine zq_iload_n (i := 3) C dX8_layPushes_112 rfl rfl ?_
      refine zq_aload_n (i := 0) C dX8_layPushes_113 rfl rfl ?_
      refine zq_getr C fk_X8_28 sm0 rfl dX8_layPushes_114 ?_
      refine zq_iload_n (i := 3) C dX8_layPushes_117 rfl rfl ?_
      obtain ⟨h10, h10', hJ⟩ := hJ
      refine zq_zald C sm7 h10 h10' dX8_layPushes_118 ?_
      refine zq_if_ne (tgt := 130) C dX8_layPushes_119 rfl (fun h18 => ?_) (fun h18 => ?_)
      · have hJ := hJ.1 h18
        refine zq_weak [some (zr 0), none, some (zi x2), none, none] ⟨Or.inr rfl, Or.inl rfl, Or.inr rfl, Or.inl rfl, Or.inl rfl, trivial⟩ ?_
        exact hj130 _ _ _ hJ
      · have hJ := hJ.2 h18
        refine zq_aload_n (i := 0) C dX8_layPushes_122 rfl rfl ?_
        refine zq_iload_n (i := 2) C dX8_layPushes_123 rfl rfl ?_
        refine zq_callVi C [zi x2] (wM_lateBy l _ _  hJ) ck_X8_104 iv_X8_lateBy rfl sm0 rfl rfl rfl rfl rfl rfl dX8_layPushes_124 (fun r15 N16 hN16 => ?_)
        obtain ⟨rfl, hJ⟩ := hN16
        refine zq_if_ne (tgt := 134) C dX8_layPushes_127 rfl (fun h17 => ?_) (fun h17 => ?_)
        · have hJ := hJ.1 h17
          refine zq_iconst (x := 0) C dX8_layPushes_134 rfl ik_0 ?_
          refine zq_weak [some (zr 0), none, some (zi x2), none, none] ⟨Or.inr rfl, Or.inl rfl, Or.inr rfl, Or.inl rfl, Or.inl rfl, trivial⟩ ?_
          exact hj135 _ _ _ _ hJ
        · have hJ := hJ.2 h17
          refine zq_weak [some (zr 0), none, some (zi x2), none, none] ⟨Or.inr rfl, Or.inl rfl, Or.inr rfl, Or.inl rfl, Or.inl rfl, trivial⟩ ?_
          exact hj130 _ _ _ hJ
  have hl9 : ∀ (x1 : Int) (s : Int × zM), zwh (fun K s => jM_layPushes_L9  K Φ x1 (s.1) (s.2)) s → zG X (s.2) 9 [some (zr 0), some (zi x1), some (zi (s.1)), none, none] [] := by
    intro x1
    refine zwh_sound ?_
    intro K9 s hK9 hJ
    obtain ⟨x2, M⟩ := s
    have hJ : jM_layPushes_L9  K9 Φ x1 x2 M := hJ
    show zG X M 9 [some (zr 0), some (zi x1), some (zi x2), none, none] []
    unfold jM_layPushes_L9 at hJ
    have hj73 : ∀ (x2 s1 s2 : Int) (M : zM), jM_layPushes_J73 K9 Φ x1 x2 s1 s2 M → zG X M 73 [some (zr 0), some (zi x1), some (zi x2), none, none] [zi s2, zi s1, zr 7] := by
      intro x2 s1 s2 M hJ
      unfold jM_layPushes_J73 at hJ
      obtain ⟨h30, h30', hJ⟩ := hJ
      obtain ⟨h31, hJ⟩ := hJ
      refine zq_zast C sm7 h30 h30' h31 dX8_layPushes_73 (fun M32 hM32 => ?_)
      have hJ := hJ M32 hM32
      obtain ⟨hv2_33, hJ⟩ := hJ
      refine zq_iinc (y := x2 + 1) (lv' := [some (zr 0), some (zi x1), some (zi (x2 + 1)), none, none]) C dX8_layPushes_74 rfl rfl hv2_33 rfl ?_
      obtain ⟨v2_33, ev2_33⟩ : ∃ z, z = x2 + 1 := ⟨_, rfl⟩
      rw [← ev2_33]
      have hJ := hJ v2_33 ev2_33
      refine zq_goto (tgt := 9) C dX8_layPushes_77 rfl ?_
      exact hK9 _ hJ
    have hj72 : ∀ (x2 s1 : Int) (M : zM), jM_layPushes_J72 K9 Φ x1 x2 s1 M → zG X M 72 [some (zr 0), some (zi x1), some (zi x2), none, none] [zi s1, zr 7] := by
      intro x2 s1 M hJ
      unfold jM_layPushes_J72 at hJ
      refine zq_iconst (x := 0) C dX8_layPushes_72 rfl ik_0 ?_
      exact hj73 _ _ _ _ hJ
    refine zq_iload_n (i := 2) C dX8_layPushes_9 rfl rfl ?_
    refine zq_iload_n (i := 1) C dX8_layPushes_10 rfl rfl ?_
    refine zq_iload_n (i := 1) C dX8_layPushes_11 rfl rfl ?_
    obtain ⟨h2, hJ⟩ := hJ
    refine zq_imul C dX8_layPushes_12 h2 ?_
    refine zq_icmp_ge (tgt := 80) C dX8_layPushes_13 rfl (fun h40 => ?_) (fun h40 => ?_)
    · have hJ := hJ.1 h40
      refine zq_iconst (x := 0) C dX8_layPushes_80 rfl ik_0 ?_
      refine zq_istore_n (i := 2) (lv' := [some (zr 0), some (zi x1), some (zi 0), none, none]) C dX8_layPushes_81 rfl (Nat.le_of_ble_eq_true rfl) rfl ?_
      refine zq_weak [some (zr 0), none, some (zi 0), none, none] ⟨Or.inr rfl, Or.inl rfl, Or.inr rfl, Or.inl rfl, Or.inl rfl, trivial⟩ ?_
      exact hl82 _ hJ
    · have hJ := hJ.2 h40
      refine zq_iload_n (i := 2) C dX8_layPushes_16 rfl rfl ?_
      refine zq_iload_n (i := 1) C dX8_layPushes_17 rfl rfl ?_
      obtain ⟨h20, h20', hJ⟩ := hJ
      refine zq_idiv C dX8_layPushes_18 h20 h20' ?_
      refine zq_istoreN_n (i := 3) C (fun v => [some (zr 0), some (zi x1), some (zi x2), some (zi v), none]) dX8_layPushes_19 rfl (Nat.le_of_ble_eq_true rfl) (fun _ => rfl) (fun v3_21 hv3_21 => ?_)
      have hJ := hJ v3_21 hv3_21
      refine zq_iload_n (i := 2) C dX8_layPushes_20 rfl rfl ?_
      refine zq_iload_n (i := 1) C dX8_layPushes_21 rfl rfl ?_
      obtain ⟨h22, h22', hJ⟩ := hJ
      refine zq_irem C dX8_layPushes_22 h22 h22' ?_
      refine zq_istoreN C (fun v => [some (zr 0), some (zi x1), some (zi x2), some (zi v3_21), some (zi v)]) dX8_layPushes_23 (Nat.le_of_ble_eq_true rfl) (fun _ => rfl) (fun v4_23 hv4_23 => ?_)
      have hJ := hJ v4_23 hv4_23
      refine zq_aload_n (i := 0) C dX8_layPushes_25 rfl rfl ?_
      refine zq_getr C fk_X8_28 sm0 rfl dX8_layPushes_26 ?_
      refine zq_bipush (x := 30) C dX8_layPushes_29 bi_30 ik_30 ?_
      refine zq_iload_n (i := 3) C dX8_layPushes_31 rfl rfl ?_
      obtain ⟨h24, hJ⟩ := hJ
      refine zq_imul C dX8_layPushes_32 h24 ?_
      refine zq_iload C dX8_layPushes_33 rfl ?_
      obtain ⟨h25, hJ⟩ := hJ
      refine zq_iadd C dX8_layPushes_35 h25 ?_
      refine zq_aload_n (i := 0) C dX8_layPushes_36 rfl rfl ?_
      refine zq_iload_n (i := 3) C dX8_layPushes_37 rfl rfl ?_
      refine zq_iconst (x := 1) C dX8_layPushes_38 rfl ik_1 ?_
      refine zq_callVi C [zi v3_21, zi 1] (wM_of l _ _ _  hJ) ck_X8_48 iv_X8_of rfl sm0 rfl rfl rfl rfl rfl rfl dX8_layPushes_39 (fun r26 N27 hN27 => ?_)
      obtain ⟨rfl, hJ⟩ := hN27
      refine zq_aload_n (i := 0) C dX8_layPushes_42 rfl rfl ?_
      refine zq_iload C dX8_layPushes_43 rfl ?_
      refine zq_iconst (x := 1) C dX8_layPushes_45 rfl ik_1 ?_
      refine zq_callVi C [zi v4_23, zi 1] (wM_of l _ _ _  hJ) ck_X8_48 iv_X8_of rfl sm0 rfl rfl rfl rfl rfl rfl dX8_layPushes_46 (fun r28 N29 hN29 => ?_)
      obtain ⟨rfl, hJ⟩ := hN29
      refine zq_icmp_ne (tgt := 72) C dX8_layPushes_49 rfl (fun h39 => ?_) (fun h39 => ?_)
      · have hJ := hJ.1 h39
        refine zq_weak [some (zr 0), some (zi x1), some (zi x2), none, none] ⟨Or.inr rfl, Or.inr rfl, Or.inr rfl, Or.inl rfl, Or.inl rfl, trivial⟩ ?_
        exact hj72 _ _ _ hJ
      · have hJ := hJ.2 h39
        refine zq_aload_n (i := 0) C dX8_layPushes_52 rfl rfl ?_
        refine zq_iload C dX8_layPushes_53 rfl ?_
        refine zq_iconst (x := 2) C dX8_layPushes_55 rfl ik_2 ?_
        refine zq_callVi C [zi v4_23, zi 2] (wM_of l _ _ _  hJ) ck_X8_48 iv_X8_of rfl sm0 rfl rfl rfl rfl rfl rfl dX8_layPushes_56 (fun r34 N35 hN35 => ?_)
        obtain ⟨rfl, hJ⟩ := hN35
        refine zq_aload_n (i := 0) C dX8_layPushes_59 rfl rfl ?_
        refine zq_iload_n (i := 3) C dX8_layPushes_60 rfl rfl ?_
        refine zq_iconst (x := 2) C dX8_layPushes_61 rfl ik_2 ?_
        refine zq_callVi C [zi v3_21, zi 2] (wM_of l _ _ _  hJ) ck_X8_48 iv_X8_of rfl sm0 rfl rfl rfl rfl rfl rfl dX8_layPushes_62 (fun r36 N37 hN37 => ?_)
        obtain ⟨rfl, hJ⟩ := hN37
        refine zq_icmp_le (tgt := 72) C dX8_layPushes_65 rfl (fun h38 => ?_) (fun h38 => ?_)
        · have hJ := hJ.1 h38
          refine zq_weak [some (zr 0), some (zi x1), some (zi x2), none, none] ⟨Or.inr rfl, Or.inr rfl, Or.inr rfl, Or.inl rfl, Or.inl rfl, trivial⟩ ?_
          exact hj72 _ _ _ hJ
        · have hJ := hJ.2 h38
          refine zq_iconst (x := 1) C dX8_layPushes_68 rfl ik_1 ?_
          refine zq_goto (tgt := 73) C dX8_layPushes_69 rfl ?_
          refine zq_weak [some (zr 0), some (zi x1), some (zi x2), none, none] ⟨Or.inr rfl, Or.inr rfl, Or.inr rfl, Or.inl rfl, Or.inl rfl, trivial⟩ ?_
          exact hj73 _ _ _ _ hJ
  refine zq_aload_n (i := 0) C dX8_layPushes_0 rfl rfl ?_
  refine zq_getr C fk_X8_7 sm0 rfl dX8_layPushes_1 ?_
  refine zq_iconst (x := 0) C dX8_layPushes_4 rfl ik_0 ?_
  refine zq_iald C sm1 (by decide) (by decide) dX8_layPushes_5 ?_
  refine zq_istoreN_n (i := 1) C (fun v => [some (zr 0), some (zi v), none, none, none]) dX8_layPushes_6 rfl (Nat.le_of_ble_eq_true rfl) (fun _ => rfl) (fun v1_1 hv1_1 => ?_)
  have hJ := hJ v1_1 hv1_1
  refine zq_iconst (x := 0) C dX8_layPushes_7 rfl ik_0 ?_
  refine zq_istore_n (i := 2) (lv' := [some (zr 0), some (zi v1_1), some (zi 0), none, none]) C dX8_layPushes_8 rfl (Nat.le_of_ble_eq_true rfl) rfl ?_
  exact hl9 _ _ hJ
set_option maxRecDepth 100000 in
set_option maxHeartbeats 4000000 in
theorem wM_slips (l : Launch) (a1 a2 : Int) (M : zM) {Φ : Int → zM → Prop} (hJ : jM_slips a1 a2 M Φ) : zMet l yX8_slips cX8_slips 7 (some .int) 5 110 shM [zr 0, zi a1, zi a2] M (zI Φ) := by
  refine zq_enter [some (zr 0), some (zi a1), some (zi a2), none, none, none, none] (by decide) rfl (Nat.le_of_ble_eq_true rfl) rfl (fun X C => ?_)
  unfold jM_slips at hJ
  have hl130 : ∀ (x3 : Int) (s : Int × Int × zM), zwh (fun K s => jM_slips_L130 a1 a2 K Φ x3 (s.1) (s.2.1) (s.2.2)) s → zG X (s.2.2) 130 [some (zr 0), some (zi a1), some (zi a2), some (zi x3), none, some (zi (s.1)), some (zi (s.2.1))] [] := by
    intro x3
    refine zwh_sound ?_
    intro K130 s hK130 hJ
    obtain ⟨x5, x6, M⟩ := s
    have hJ : jM_slips_L130 a1 a2 K130 Φ x3 x5 x6 M := hJ
    show zG X M 130 [some (zr 0), some (zi a1), some (zi a2), some (zi x3), none, some (zi x5), some (zi x6)] []
    unfold jM_slips_L130 at hJ
    have hj166 : ∀ (x6 s0 s1 : Int) (M : zM), jM_slips_J166 a1 a2 K130 Φ x3 x6 s0 s1 M → zG X M 166 [some (zr 0), some (zi a1), some (zi a2), some (zi x3), none, none, some (zi x6)] [zi s1, zi s0] := by
      intro x6 s0 s1 M hJ
      unfold jM_slips_J166 at hJ
      obtain ⟨h16, hJ⟩ := hJ
      refine zq_iadd C dX8_slips_166 h16 ?_
      refine zq_istoreN C (fun v => [some (zr 0), some (zi a1), some (zi a2), some (zi x3), none, some (zi v), some (zi x6)]) dX8_slips_167 (Nat.le_of_ble_eq_true rfl) (fun _ => rfl) (fun v5_17 hv5_17 => ?_)
      have hJ := hJ v5_17 hv5_17
      refine zq_aload_n (i := 0) C dX8_slips_169 rfl rfl ?_
      refine zq_getr C fk_X8_7 sm0 rfl dX8_slips_170 ?_
      refine zq_sipush (x := 446) C dX8_slips_173 si_446 ik_446 ?_
      refine zq_dup2 C dX8_slips_176 rfl rfl ?_
      refine zq_iald C sm1 (by decide) (by decide) dX8_slips_177 ?_
      refine zq_aload_n (i := 0) C dX8_slips_178 rfl rfl ?_
      refine zq_iload C dX8_slips_179 rfl ?_
      refine zq_iconst (x := 2) C dX8_slips_181 rfl ik_2 ?_
      refine zq_callVi C [zi x6, zi 2] (wM_of l _ _ _  hJ) ck_X8_48 iv_X8_of rfl sm0 rfl rfl rfl rfl rfl rfl dX8_slips_182 (fun r18 N19 hN19 => ?_)
      obtain ⟨rfl, hJ⟩ := hN19
      refine zq_aload_n (i := 0) C dX8_slips_185 rfl rfl ?_
      refine zq_getr C fk_X8_13 sm0 rfl dX8_slips_186 ?_
      refine zq_iconst (x := 1) C dX8_slips_189 rfl ik_1 ?_
      refine zq_iconst (x := 4) C dX8_slips_190 rfl ik_4 ?_
      refine zq_iload C dX8_slips_191 rfl ?_
      obtain ⟨h20, hJ⟩ := hJ
      refine zq_imul C dX8_slips_193 h20 ?_
      obtain ⟨h21, hJ⟩ := hJ
      refine zq_iadd C dX8_slips_194 h21 ?_
      refine zq_iconst (x := 2) C dX8_slips_195 rfl ik_2 ?_
      obtain ⟨h22, hJ⟩ := hJ
      refine zq_iadd C dX8_slips_196 h22 ?_
      obtain ⟨h23, h23', hJ⟩ := hJ
      refine zq_iald C sm2 h23 h23' dX8_slips_197 ?_
      obtain ⟨h24, hJ⟩ := hJ
      refine zq_isub C dX8_slips_198 h24 ?_
      obtain ⟨h25, hJ⟩ := hJ
      refine zq_iadd C dX8_slips_199 h25 ?_
      refine zq_iast C sm1 (by decide) (by decide) dX8_slips_200 (fun M26 hM26 => ?_)
      have hJ := hJ M26 hM26
      obtain ⟨hv6_27, hJ⟩ := hJ
      refine zq_iinc (y := x6 + 1) (lv' := [some (zr 0), some (zi a1), some (zi a2), some (zi x3), none, some (zi v5_17), some (zi (x6 + 1))]) C dX8_slips_201 rfl rfl hv6_27 rfl ?_
      obtain ⟨v6_27, ev6_27⟩ : ∃ z, z = x6 + 1 := ⟨_, rfl⟩
      rw [← ev6_27]
      have hJ := hJ v6_27 ev6_27
      refine zq_goto (tgt := 130) C dX8_slips_204 rfl ?_
      exact hK130 _ hJ
    refine zq_iload C dX8_slips_130 rfl ?_
    refine zq_iload_n (i := 3) C dX8_slips_132 rfl rfl ?_
    refine zq_icmp_ge (tgt := 207) C dX8_slips_133 rfl (fun h29 => ?_) (fun h29 => ?_)
    · have hJ := hJ.1 h29
      refine zq_iload C dX8_slips_207 rfl ?_
      exact zq_iret C rfl ⟨_, rfl, hJ⟩ dX8_slips_209
    · have hJ := hJ.2 h29
      refine zq_iload C dX8_slips_136 rfl ?_
      refine zq_aload_n (i := 0) C dX8_slips_138 rfl rfl ?_
      refine zq_iload C dX8_slips_139 rfl ?_
      refine zq_iconst (x := 2) C dX8_slips_141 rfl ik_2 ?_
      refine zq_callVi C [zi x6, zi 2] (wM_of l _ _ _  hJ) ck_X8_48 iv_X8_of rfl sm0 rfl rfl rfl rfl rfl rfl dX8_slips_142 (fun r10 N11 hN11 => ?_)
      obtain ⟨rfl, hJ⟩ := hN11
      refine zq_aload_n (i := 0) C dX8_slips_145 rfl rfl ?_
      refine zq_getr C fk_X8_13 sm0 rfl dX8_slips_146 ?_
      refine zq_iconst (x := 1) C dX8_slips_149 rfl ik_1 ?_
      refine zq_iconst (x := 4) C dX8_slips_150 rfl ik_4 ?_
      refine zq_iload C dX8_slips_151 rfl ?_
      obtain ⟨h12, hJ⟩ := hJ
      refine zq_imul C dX8_slips_153 h12 ?_
      obtain ⟨h13, hJ⟩ := hJ
      refine zq_iadd C dX8_slips_154 h13 ?_
      refine zq_iconst (x := 2) C dX8_slips_155 rfl ik_2 ?_
      obtain ⟨h14, hJ⟩ := hJ
      refine zq_iadd C dX8_slips_156 h14 ?_
      obtain ⟨h15, h15', hJ⟩ := hJ
      refine zq_iald C sm2 h15 h15' dX8_slips_157 ?_
      refine zq_icmp_ne (tgt := 165) C dX8_slips_158 rfl (fun h28 => ?_) (fun h28 => ?_)
      · have hJ := hJ.1 h28
        refine zq_iconst (x := 1) C dX8_slips_165 rfl ik_1 ?_
        refine zq_weak [some (zr 0), some (zi a1), some (zi a2), some (zi x3), none, none, some (zi x6)] ⟨Or.inr rfl, Or.inr rfl, Or.inr rfl, Or.inr rfl, Or.inl rfl, Or.inl rfl, Or.inr rfl, trivial⟩ ?_
        exact hj166 _ _ _ _ hJ
      · have hJ := hJ.2 h28
        refine zq_iconst (x := 0) C dX8_slips_161 rfl ik_0 ?_
        refine zq_goto (tgt := 166) C dX8_slips_162 rfl ?_
        refine zq_weak [some (zr 0), some (zi a1), some (zi a2), some (zi x3), none, none, some (zi x6)] ⟨Or.inr rfl, Or.inr rfl, Or.inr rfl, Or.inr rfl, Or.inl rfl, Or.inl rfl, Or.inr rfl, trivial⟩ ?_
        exact hj166 _ _ _ _ hJ
  have hl30 : ∀ (x3 : Int) (s : Int × zM), zwh (fun K s => jM_slips_L30 a1 a2 K Φ x3 (s.1) (s.2)) s → zG X (s.2) 30 [some (zr 0), some (zi a1), some (zi a2), some (zi x3), some (zi (s.1)), none, none] [] := by
    intro x3
    refine zwh_sound ?_
    intro K30 s hK30 hJ
    obtain ⟨x4, M⟩ := s
    have hJ : jM_slips_L30 a1 a2 K30 Φ x3 x4 M := hJ
    show zG X M 30 [some (zr 0), some (zi a1), some (zi a2), some (zi x3), some (zi x4), none, none] []
    unfold jM_slips_L30 at hJ
    have hl41 : ∀ (s : Int × Int × zM), zwh (fun K s => jM_slips_L41 a1 a2 K30 K Φ x3 (s.1) (s.2.1) (s.2.2)) s → zG X (s.2.2) 41 [some (zr 0), some (zi a1), some (zi a2), some (zi x3), some (zi (s.1)), some (zi (s.2.1)), none] [] := by
      refine zwh_sound ?_
      intro K41 s hK41 hJ
      obtain ⟨x4, x5, M⟩ := s
      have hJ : jM_slips_L41 a1 a2 K30 K41 Φ x3 x4 x5 M := hJ
      show zG X M 41 [some (zr 0), some (zi a1), some (zi a2), some (zi x3), some (zi x4), some (zi x5), none] []
      unfold jM_slips_L41 at hJ
      refine zq_iload C dX8_slips_41 rfl ?_
      refine zq_iload_n (i := 3) C dX8_slips_43 rfl rfl ?_
      refine zq_iload_n (i := 3) C dX8_slips_44 rfl rfl ?_
      obtain ⟨h30, hJ⟩ := hJ
      refine zq_imul C dX8_slips_45 h30 ?_
      refine zq_icmp_ge (tgt := 121) C dX8_slips_46 rfl (fun h55 => ?_) (fun h55 => ?_)
      · have hJ := hJ.1 h55
        refine zq_goto (tgt := 30) C dX8_slips_121 rfl ?_
        refine zq_weak [some (zr 0), some (zi a1), some (zi a2), some (zi x3), some (zi x4), none, none] ⟨Or.inr rfl, Or.inr rfl, Or.inr rfl, Or.inr rfl, Or.inr rfl, Or.inl rfl, Or.inl rfl, trivial⟩ ?_
        exact hK30 _ hJ
      · have hJ := hJ.2 h55
        refine zq_iload C dX8_slips_49 rfl ?_
        refine zq_iload_n (i := 3) C dX8_slips_51 rfl rfl ?_
        obtain ⟨h31, h31', hJ⟩ := hJ
        refine zq_irem C dX8_slips_52 h31 h31' ?_
        refine zq_istoreN C (fun v => [some (zr 0), some (zi a1), some (zi a2), some (zi x3), some (zi x4), some (zi x5), some (zi v)]) dX8_slips_53 (Nat.le_of_ble_eq_true rfl) (fun _ => rfl) (fun v6_32 hv6_32 => ?_)
        have hJ := hJ v6_32 hv6_32
        refine zq_aload_n (i := 0) C dX8_slips_55 rfl rfl ?_
        refine zq_getr C fk_X8_28 sm0 rfl dX8_slips_56 ?_
        refine zq_bipush (x := 30) C dX8_slips_59 bi_30 ik_30 ?_
        refine zq_iload C dX8_slips_61 rfl ?_
        refine zq_iload_n (i := 3) C dX8_slips_63 rfl rfl ?_
        obtain ⟨h33, h33', hJ⟩ := hJ
        refine zq_idiv C dX8_slips_64 h33 h33' ?_
        obtain ⟨h34, hJ⟩ := hJ
        refine zq_imul C dX8_slips_65 h34 ?_
        refine zq_iload C dX8_slips_66 rfl ?_
        obtain ⟨h35, hJ⟩ := hJ
        refine zq_iadd C dX8_slips_68 h35 ?_
        obtain ⟨h36, h36', hJ⟩ := hJ
        refine zq_zald C sm7 h36 h36' dX8_slips_69 ?_
        refine zq_if_eq (tgt := 115) C dX8_slips_70 rfl (fun h54 => ?_) (fun h54 => ?_)
        · have hJ := hJ.1 h54
          obtain ⟨hv5_37, hJ⟩ := hJ
          refine zq_iinc (y := x5 + 1) (lv' := [some (zr 0), some (zi a1), some (zi a2), some (zi x3), some (zi x4), some (zi (x5 + 1)), some (zi v6_32)]) C dX8_slips_115 rfl rfl hv5_37 rfl ?_
          obtain ⟨v5_37, ev5_37⟩ : ∃ z, z = x5 + 1 := ⟨_, rfl⟩
          rw [← ev5_37]
          have hJ := hJ v5_37 ev5_37
          refine zq_goto (tgt := 41) C dX8_slips_118 rfl ?_
          refine zq_weak [some (zr 0), some (zi a1), some (zi a2), some (zi x3), some (zi x4), some (zi v5_37), none] ⟨Or.inr rfl, Or.inr rfl, Or.inr rfl, Or.inr rfl, Or.inr rfl, Or.inr rfl, Or.inl rfl, trivial⟩ ?_
          exact hK41 _ hJ
        · have hJ := hJ.2 h54
          refine zq_aload_n (i := 0) C dX8_slips_73 rfl rfl ?_
          refine zq_iload C dX8_slips_74 rfl ?_
          refine zq_iconst (x := 2) C dX8_slips_76 rfl ik_2 ?_
          refine zq_callVi C [zi v6_32, zi 2] (wM_of l _ _ _  hJ) ck_X8_48 iv_X8_of rfl sm0 rfl rfl rfl rfl rfl rfl dX8_slips_77 (fun r38 N39 hN39 => ?_)
          obtain ⟨rfl, hJ⟩ := hN39
          refine zq_aload_n (i := 0) C dX8_slips_80 rfl rfl ?_
          refine zq_iload C dX8_slips_81 rfl ?_
          refine zq_iload_n (i := 3) C dX8_slips_83 rfl rfl ?_
          obtain ⟨h40, h40', hJ⟩ := hJ
          refine zq_idiv C dX8_slips_84 h40 h40' ?_
          refine zq_callVi C [zi (x5 / x3)] (wM_end l _ _  hJ) ck_X8_56 iv_X8_end rfl sm0 rfl rfl rfl rfl rfl rfl dX8_slips_85 (fun r41 N42 hN42 => ?_)
          obtain ⟨rfl, hJ⟩ := hN42
          refine zq_icmp_ge (tgt := 115) C dX8_slips_88 rfl (fun h53 => ?_) (fun h53 => ?_)
          · have hJ := hJ.1 h53
            obtain ⟨hv5_43, hJ⟩ := hJ
            refine zq_iinc (y := x5 + 1) (lv' := [some (zr 0), some (zi a1), some (zi a2), some (zi x3), some (zi x4), some (zi (x5 + 1)), some (zi v6_32)]) C dX8_slips_115 rfl rfl hv5_43 rfl ?_
            obtain ⟨v5_43, ev5_43⟩ : ∃ z, z = x5 + 1 := ⟨_, rfl⟩
            rw [← ev5_43]
            have hJ := hJ v5_43 ev5_43
            refine zq_goto (tgt := 41) C dX8_slips_118 rfl ?_
            refine zq_weak [some (zr 0), some (zi a1), some (zi a2), some (zi x3), some (zi x4), some (zi v5_43), none] ⟨Or.inr rfl, Or.inr rfl, Or.inr rfl, Or.inr rfl, Or.inr rfl, Or.inr rfl, Or.inl rfl, trivial⟩ ?_
            exact hK41 _ hJ
          · have hJ := hJ.2 h53
            refine zq_aload_n (i := 0) C dX8_slips_91 rfl rfl ?_
            refine zq_getr C fk_X8_7 sm0 rfl dX8_slips_92 ?_
            refine zq_iconst (x := 1) C dX8_slips_95 rfl ik_1 ?_
            refine zq_iconst (x := 4) C dX8_slips_96 rfl ik_4 ?_
            refine zq_iload C dX8_slips_97 rfl ?_
            obtain ⟨h44, hJ⟩ := hJ
            refine zq_imul C dX8_slips_99 h44 ?_
            obtain ⟨h45, hJ⟩ := hJ
            refine zq_iadd C dX8_slips_100 h45 ?_
            refine zq_iconst (x := 2) C dX8_slips_101 rfl ik_2 ?_
            obtain ⟨h46, hJ⟩ := hJ
            refine zq_iadd C dX8_slips_102 h46 ?_
            refine zq_aload_n (i := 0) C dX8_slips_103 rfl rfl ?_
            refine zq_iload C dX8_slips_104 rfl ?_
            refine zq_iload_n (i := 3) C dX8_slips_106 rfl rfl ?_
            obtain ⟨h47, h47', hJ⟩ := hJ
            refine zq_idiv C dX8_slips_107 h47 h47' ?_
            refine zq_callVi C [zi (x5 / x3)] (wM_end l _ _  hJ) ck_X8_56 iv_X8_end rfl sm0 rfl rfl rfl rfl rfl rfl dX8_slips_108 (fun r48 N49 hN49 => ?_)
            obtain ⟨rfl, hJ⟩ := hN49
            obtain ⟨h50, h50', hJ⟩ := hJ
            refine zq_iast C sm1 h50 h50' dX8_slips_111 (fun M51 hM51 => ?_)
            have hJ := hJ M51 hM51
            refine zq_iconst (x := 1) C dX8_slips_112 rfl ik_1 ?_
            refine zq_istore (lv' := [some (zr 0), some (zi a1), some (zi a2), some (zi x3), some (zi 1), some (zi x5), some (zi v6_32)]) C dX8_slips_113 (Nat.le_of_ble_eq_true rfl) rfl ?_
            obtain ⟨hv5_52, hJ⟩ := hJ
            refine zq_iinc (y := x5 + 1) (lv' := [some (zr 0), some (zi a1), some (zi a2), some (zi x3), some (zi 1), some (zi (x5 + 1)), some (zi v6_32)]) C dX8_slips_115 rfl rfl hv5_52 rfl ?_
            obtain ⟨v5_52, ev5_52⟩ : ∃ z, z = x5 + 1 := ⟨_, rfl⟩
            rw [← ev5_52]
            have hJ := hJ v5_52 ev5_52
            refine zq_goto (tgt := 41) C dX8_slips_118 rfl ?_
            refine zq_weak [some (zr 0), some (zi a1), some (zi a2), some (zi x3), some (zi 1), some (zi v5_52), none] ⟨Or.inr rfl, Or.inr rfl, Or.inr rfl, Or.inr rfl, Or.inr rfl, Or.inr rfl, Or.inl rfl, trivial⟩ ?_
            exact hK41 _ hJ
    refine zq_iload C dX8_slips_30 rfl ?_
    refine zq_if_eq (tgt := 124) C dX8_slips_32 rfl (fun h56 => ?_) (fun h56 => ?_)
    · have hJ := hJ.1 h56
      refine zq_iconst (x := 0) C dX8_slips_124 rfl ik_0 ?_
      refine zq_istore (lv' := [some (zr 0), some (zi a1), some (zi a2), some (zi x3), some (zi x4), some (zi 0), none]) C dX8_slips_125 (Nat.le_of_ble_eq_true rfl) rfl ?_
      refine zq_iconst (x := 0) C dX8_slips_127 rfl ik_0 ?_
      refine zq_istore (lv' := [some (zr 0), some (zi a1), some (zi a2), some (zi x3), some (zi x4), some (zi 0), some (zi 0)]) C dX8_slips_128 (Nat.le_of_ble_eq_true rfl) rfl ?_
      refine zq_weak [some (zr 0), some (zi a1), some (zi a2), some (zi x3), none, some (zi 0), some (zi 0)] ⟨Or.inr rfl, Or.inr rfl, Or.inr rfl, Or.inr rfl, Or.inl rfl, Or.inr rfl, Or.inr rfl, trivial⟩ ?_
      exact hl130 _ _ hJ
    · have hJ := hJ.2 h56
      refine zq_iconst (x := 0) C dX8_slips_35 rfl ik_0 ?_
      refine zq_istore (lv' := [some (zr 0), some (zi a1), some (zi a2), some (zi x3), some (zi 0), none, none]) C dX8_slips_36 (Nat.le_of_ble_eq_true rfl) rfl ?_
      refine zq_iconst (x := 0) C dX8_slips_38 rfl ik_0 ?_
      refine zq_istore (lv' := [some (zr 0), some (zi a1), some (zi a2), some (zi x3), some (zi 0), some (zi 0), none]) C dX8_slips_39 (Nat.le_of_ble_eq_true rfl) rfl ?_
      exact hl41 _ hJ
  refine zq_aload_n (i := 0) C dX8_slips_0 rfl rfl ?_
  refine zq_callVv C [] (wM_layPushes l _  hJ) ck_X8_124 iv_X8_layPushes rfl sm0 rfl rfl rfl rfl rfl rfl dX8_slips_1 (fun M1 hJ => ?_)
  refine zq_aload_n (i := 0) C dX8_slips_4 rfl rfl ?_
  refine zq_getr C fk_X8_7 sm0 rfl dX8_slips_5 ?_
  refine zq_iconst (x := 0) C dX8_slips_8 rfl ik_0 ?_
  refine zq_iald C sm1 (by decide) (by decide) dX8_slips_9 ?_
  refine zq_istoreN_n (i := 3) C (fun v => [some (zr 0), some (zi a1), some (zi a2), some (zi v), none, none, none]) dX8_slips_10 rfl (Nat.le_of_ble_eq_true rfl) (fun _ => rfl) (fun v3_2 hv3_2 => ?_)
  have hJ := hJ v3_2 hv3_2
  refine zq_aload_n (i := 0) C dX8_slips_11 rfl rfl ?_
  refine zq_getr C fk_X8_7 sm0 rfl dX8_slips_12 ?_
  refine zq_iconst (x := 1) C dX8_slips_15 rfl ik_1 ?_
  refine zq_iconst (x := 4) C dX8_slips_16 rfl ik_4 ?_
  refine zq_iload_n (i := 1) C dX8_slips_17 rfl rfl ?_
  obtain ⟨h3, hJ⟩ := hJ
  refine zq_imul C dX8_slips_18 h3 ?_
  obtain ⟨h4, hJ⟩ := hJ
  refine zq_iadd C dX8_slips_19 h4 ?_
  refine zq_iconst (x := 2) C dX8_slips_20 rfl ik_2 ?_
  obtain ⟨h5, hJ⟩ := hJ
  refine zq_iadd C dX8_slips_21 h5 ?_
  refine zq_dup2 C dX8_slips_22 rfl rfl ?_
  obtain ⟨h6, h6', hJ⟩ := hJ
  refine zq_iald C sm1 h6 h6' dX8_slips_23 ?_
  refine zq_iload_n (i := 2) C dX8_slips_24 rfl rfl ?_
  obtain ⟨h7, hJ⟩ := hJ
  refine zq_iadd C dX8_slips_25 h7 ?_
  obtain ⟨h8, h8', hJ⟩ := hJ
  refine zq_iast C sm1 h8 h8' dX8_slips_26 (fun M9 hM9 => ?_)
  have hJ := hJ M9 hM9
  refine zq_iconst (x := 1) C dX8_slips_27 rfl ik_1 ?_
  refine zq_istore (lv' := [some (zr 0), some (zi a1), some (zi a2), some (zi v3_2), some (zi 1), none, none]) C dX8_slips_28 (Nat.le_of_ble_eq_true rfl) rfl ?_
  exact hl30 _ _ hJ
set_option maxRecDepth 100000 in
set_option maxHeartbeats 4000000 in
theorem wM_layLatest (l : Launch)  (M : zM) {Φ : zM → Prop} (hJ : jM_layLatest  M Φ) : zMet l yX8_layLatest cX8_layLatest 7 none 5 110 shM [zr 0] M (zU Φ) := by
  refine zq_enter [some (zr 0), none, none, none, none, none, none] (by decide) rfl (Nat.le_of_ble_eq_true rfl) rfl (fun X C => ?_)
  unfold jM_layLatest at hJ
  have hl45 : ∀ (x1 : Int) (s : Int × zM), zwh (fun K s => jM_layLatest_L45  K Φ x1 (s.1) (s.2)) s → zG X (s.2) 45 [some (zr 0), some (zi x1), none, some (zi (s.1)), none, none, none] [] := by
    intro x1
    refine zwh_sound ?_
    intro K45 s hK45 hJ
    obtain ⟨x3, M⟩ := s
    have hJ : jM_layLatest_L45  K45 Φ x1 x3 M := hJ
    show zG X M 45 [some (zr 0), some (zi x1), none, some (zi x3), none, none, none] []
    unfold jM_layLatest_L45 at hJ
    have hl54 : ∀ (s : Int × Int × zM), zwh (fun K s => jM_layLatest_L54 K45 K Φ x1 (s.1) (s.2.1) (s.2.2)) s → zG X (s.2.2) 54 [some (zr 0), some (zi x1), none, some (zi (s.1)), some (zi (s.2.1)), none, none] [] := by
      refine zwh_sound ?_
      intro K54 s hK54 hJ
      obtain ⟨x3, x4, M⟩ := s
      have hJ : jM_layLatest_L54 K45 K54 Φ x1 x3 x4 M := hJ
      show zG X M 54 [some (zr 0), some (zi x1), none, some (zi x3), some (zi x4), none, none] []
      unfold jM_layLatest_L54 at hJ
      refine zq_iload C dX8_layLatest_54 rfl ?_
      refine zq_iload_n (i := 1) C dX8_layLatest_56 rfl rfl ?_
      refine zq_iload_n (i := 1) C dX8_layLatest_57 rfl rfl ?_
      obtain ⟨h5, hJ⟩ := hJ
      refine zq_imul C dX8_layLatest_58 h5 ?_
      refine zq_icmp_ge (tgt := 134) C dX8_layLatest_59 rfl (fun h26 => ?_) (fun h26 => ?_)
      · have hJ := hJ.1 h26
        refine zq_goto (tgt := 45) C dX8_layLatest_134 rfl ?_
        refine zq_weak [some (zr 0), some (zi x1), none, some (zi x3), none, none, none] ⟨Or.inr rfl, Or.inr rfl, Or.inl rfl, Or.inr rfl, Or.inl rfl, Or.inl rfl, Or.inl rfl, trivial⟩ ?_
        exact hK45 _ hJ
      · have hJ := hJ.2 h26
        refine zq_iload C dX8_layLatest_62 rfl ?_
        refine zq_iload_n (i := 1) C dX8_layLatest_64 rfl rfl ?_
        obtain ⟨h6, h6', hJ⟩ := hJ
        refine zq_idiv C dX8_layLatest_65 h6 h6' ?_
        refine zq_istoreN C (fun v => [some (zr 0), some (zi x1), none, some (zi x3), some (zi x4), some (zi v), none]) dX8_layLatest_66 (Nat.le_of_ble_eq_true rfl) (fun _ => rfl) (fun v5_7 hv5_7 => ?_)
        have hJ := hJ v5_7 hv5_7
        refine zq_aload_n (i := 0) C dX8_layLatest_68 rfl rfl ?_
        refine zq_getr C fk_X8_32 sm0 rfl dX8_layLatest_69 ?_
        refine zq_iload C dX8_layLatest_72 rfl ?_
        refine zq_iload_n (i := 1) C dX8_layLatest_74 rfl rfl ?_
        obtain ⟨h8, h8', hJ⟩ := hJ
        refine zq_irem C dX8_layLatest_75 h8 h8' ?_
        obtain ⟨h9, h9', hJ⟩ := hJ
        refine zq_iald C sm8 h9 h9' dX8_layLatest_76 ?_
        refine zq_aload_n (i := 0) C dX8_layLatest_77 rfl rfl ?_
        refine zq_iload C dX8_layLatest_78 rfl ?_
        refine zq_iconst (x := 3) C dX8_layLatest_80 rfl ik_3 ?_
        refine zq_callVi C [zi v5_7, zi 3] (wM_of l _ _ _  hJ) ck_X8_48 iv_X8_of rfl sm0 rfl rfl rfl rfl rfl rfl dX8_layLatest_81 (fun r10 N11 hN11 => ?_)
        obtain ⟨rfl, hJ⟩ := hN11
        obtain ⟨h12, hJ⟩ := hJ
        refine zq_isub C dX8_layLatest_84 h12 ?_
        refine zq_istoreN C (fun v => [some (zr 0), some (zi x1), none, some (zi x3), some (zi x4), some (zi v5_7), some (zi v)]) dX8_layLatest_85 (Nat.le_of_ble_eq_true rfl) (fun _ => rfl) (fun v6_13 hv6_13 => ?_)
        have hJ := hJ v6_13 hv6_13
        refine zq_aload_n (i := 0) C dX8_layLatest_87 rfl rfl ?_
        refine zq_getr C fk_X8_28 sm0 rfl dX8_layLatest_88 ?_
        refine zq_bipush (x := 30) C dX8_layLatest_91 bi_30 ik_30 ?_
        refine zq_iload C dX8_layLatest_93 rfl ?_
        obtain ⟨h14, hJ⟩ := hJ
        refine zq_imul C dX8_layLatest_95 h14 ?_
        refine zq_iload C dX8_layLatest_96 rfl ?_
        refine zq_iload_n (i := 1) C dX8_layLatest_98 rfl rfl ?_
        obtain ⟨h15, h15', hJ⟩ := hJ
        refine zq_irem C dX8_layLatest_99 h15 h15' ?_
        obtain ⟨h16, hJ⟩ := hJ
        refine zq_iadd C dX8_layLatest_100 h16 ?_
        obtain ⟨h17, h17', hJ⟩ := hJ
        refine zq_zald C sm7 h17 h17' dX8_layLatest_101 ?_
        refine zq_if_eq (tgt := 128) C dX8_layLatest_102 rfl (fun h25 => ?_) (fun h25 => ?_)
        · have hJ := hJ.1 h25
          obtain ⟨hv4_18, hJ⟩ := hJ
          refine zq_iinc (y := x4 + 1) (lv' := [some (zr 0), some (zi x1), none, some (zi x3), some (zi (x4 + 1)), some (zi v5_7), some (zi v6_13)]) C dX8_layLatest_128 rfl rfl hv4_18 rfl ?_
          obtain ⟨v4_18, ev4_18⟩ : ∃ z, z = x4 + 1 := ⟨_, rfl⟩
          rw [← ev4_18]
          have hJ := hJ v4_18 ev4_18
          refine zq_goto (tgt := 54) C dX8_layLatest_131 rfl ?_
          refine zq_weak [some (zr 0), some (zi x1), none, some (zi x3), some (zi v4_18), none, none] ⟨Or.inr rfl, Or.inr rfl, Or.inl rfl, Or.inr rfl, Or.inr rfl, Or.inl rfl, Or.inl rfl, trivial⟩ ?_
          exact hK54 _ hJ
        · have hJ := hJ.2 h25
          refine zq_iload C dX8_layLatest_105 rfl ?_
          refine zq_aload_n (i := 0) C dX8_layLatest_107 rfl rfl ?_
          refine zq_getr C fk_X8_32 sm0 rfl dX8_layLatest_108 ?_
          refine zq_iload C dX8_layLatest_111 rfl ?_
          obtain ⟨h19, h19', hJ⟩ := hJ
          refine zq_iald C sm8 h19 h19' dX8_layLatest_113 ?_
          refine zq_icmp_ge (tgt := 128) C dX8_layLatest_114 rfl (fun h24 => ?_) (fun h24 => ?_)
          · have hJ := hJ.1 h24
            obtain ⟨hv4_20, hJ⟩ := hJ
            refine zq_iinc (y := x4 + 1) (lv' := [some (zr 0), some (zi x1), none, some (zi x3), some (zi (x4 + 1)), some (zi v5_7), some (zi v6_13)]) C dX8_layLatest_128 rfl rfl hv4_20 rfl ?_
            obtain ⟨v4_20, ev4_20⟩ : ∃ z, z = x4 + 1 := ⟨_, rfl⟩
            rw [← ev4_20]
            have hJ := hJ v4_20 ev4_20
            refine zq_goto (tgt := 54) C dX8_layLatest_131 rfl ?_
            refine zq_weak [some (zr 0), some (zi x1), none, some (zi x3), some (zi v4_20), none, none] ⟨Or.inr rfl, Or.inr rfl, Or.inl rfl, Or.inr rfl, Or.inr rfl, Or.inl rfl, Or.inl rfl, trivial⟩ ?_
            exact hK54 _ hJ
          · have hJ := hJ.2 h24
            refine zq_aload_n (i := 0) C dX8_layLatest_117 rfl rfl ?_
            refine zq_getr C fk_X8_32 sm0 rfl dX8_layLatest_118 ?_
            refine zq_iload C dX8_layLatest_121 rfl ?_
            refine zq_iload C dX8_layLatest_123 rfl ?_
            obtain ⟨h21, h21', hJ⟩ := hJ
            refine zq_iast C sm8 h21 h21' dX8_layLatest_125 (fun M22 hM22 => ?_)
            have hJ := hJ M22 hM22
            refine zq_iconst (x := 1) C dX8_layLatest_126 rfl ik_1 ?_
            refine zq_istore_n (i := 3) (lv' := [some (zr 0), some (zi x1), none, some (zi 1), some (zi x4), some (zi v5_7), some (zi v6_13)]) C dX8_layLatest_127 rfl (Nat.le_of_ble_eq_true rfl) rfl ?_
            obtain ⟨hv4_23, hJ⟩ := hJ
            refine zq_iinc (y := x4 + 1) (lv' := [some (zr 0), some (zi x1), none, some (zi 1), some (zi (x4 + 1)), some (zi v5_7), some (zi v6_13)]) C dX8_layLatest_128 rfl rfl hv4_23 rfl ?_
            obtain ⟨v4_23, ev4_23⟩ : ∃ z, z = x4 + 1 := ⟨_, rfl⟩
            rw [← ev4_23]
            have hJ := hJ v4_23 ev4_23
            refine zq_goto (tgt := 54) C dX8_layLatest_131 rfl ?_
            refine zq_weak [some (zr 0), some (zi x1), none, some (zi 1), some (zi v4_23), none, none] ⟨Or.inr rfl, Or.inr rfl, Or.inl rfl, Or.inr rfl, Or.inr rfl, Or.inl rfl, Or.inl rfl, trivial⟩ ?_
            exact hK54 _ hJ
    refine zq_iload_n (i := 3) C dX8_layLatest_45 rfl rfl ?_
    refine zq_if_eq (tgt := 137) C dX8_layLatest_46 rfl (fun h27 => ?_) (fun h27 => ?_)
    · have hJ := hJ.1 h27
      exact zq_vret C rfl hJ dX8_layLatest_137
    · have hJ := hJ.2 h27
      refine zq_iconst (x := 0) C dX8_layLatest_49 rfl ik_0 ?_
      refine zq_istore_n (i := 3) (lv' := [some (zr 0), some (zi x1), none, some (zi 0), none, none, none]) C dX8_layLatest_50 rfl (Nat.le_of_ble_eq_true rfl) rfl ?_
      refine zq_iconst (x := 0) C dX8_layLatest_51 rfl ik_0 ?_
      refine zq_istore (lv' := [some (zr 0), some (zi x1), none, some (zi 0), some (zi 0), none, none]) C dX8_layLatest_52 (Nat.le_of_ble_eq_true rfl) rfl ?_
      exact hl54 _ hJ
  have hl18 : ∀ (x1 x2 : Int) (s : Int × zM), zwh (fun K s => jM_layLatest_L18  K Φ x1 x2 (s.1) (s.2)) s → zG X (s.2) 18 [some (zr 0), some (zi x1), some (zi x2), some (zi (s.1)), none, none, none] [] := by
    intro x1 x2
    refine zwh_sound ?_
    intro K18 s hK18 hJ
    obtain ⟨x3, M⟩ := s
    have hJ : jM_layLatest_L18  K18 Φ x1 x2 x3 M := hJ
    show zG X M 18 [some (zr 0), some (zi x1), some (zi x2), some (zi x3), none, none, none] []
    unfold jM_layLatest_L18 at hJ
    refine zq_iload_n (i := 3) C dX8_layLatest_18 rfl rfl ?_
    refine zq_iload_n (i := 1) C dX8_layLatest_19 rfl rfl ?_
    refine zq_icmp_ge (tgt := 43) C dX8_layLatest_20 rfl (fun h34 => ?_) (fun h34 => ?_)
    · have hJ := hJ.1 h34
      refine zq_iconst (x := 1) C dX8_layLatest_43 rfl ik_1 ?_
      refine zq_istore_n (i := 3) (lv' := [some (zr 0), some (zi x1), some (zi x2), some (zi 1), none, none, none]) C dX8_layLatest_44 rfl (Nat.le_of_ble_eq_true rfl) rfl ?_
      refine zq_weak [some (zr 0), some (zi x1), none, some (zi 1), none, none, none] ⟨Or.inr rfl, Or.inr rfl, Or.inl rfl, Or.inr rfl, Or.inl rfl, Or.inl rfl, Or.inl rfl, trivial⟩ ?_
      exact hl45 _ _ hJ
    · have hJ := hJ.2 h34
      refine zq_aload_n (i := 0) C dX8_layLatest_23 rfl rfl ?_
      refine zq_getr C fk_X8_32 sm0 rfl dX8_layLatest_24 ?_
      refine zq_iload_n (i := 3) C dX8_layLatest_27 rfl rfl ?_
      refine zq_iload_n (i := 2) C dX8_layLatest_28 rfl rfl ?_
      refine zq_aload_n (i := 0) C dX8_layLatest_29 rfl rfl ?_
      refine zq_iload_n (i := 3) C dX8_layLatest_30 rfl rfl ?_
      refine zq_iconst (x := 3) C dX8_layLatest_31 rfl ik_3 ?_
      refine zq_callVi C [zi x3, zi 3] (wM_of l _ _ _  hJ) ck_X8_48 iv_X8_of rfl sm0 rfl rfl rfl rfl rfl rfl dX8_layLatest_32 (fun r28 N29 hN29 => ?_)
      obtain ⟨rfl, hJ⟩ := hN29
      obtain ⟨h30, hJ⟩ := hJ
      refine zq_isub C dX8_layLatest_35 h30 ?_
      obtain ⟨h31, h31', hJ⟩ := hJ
      refine zq_iast C sm8 h31 h31' dX8_layLatest_36 (fun M32 hM32 => ?_)
      have hJ := hJ M32 hM32
      obtain ⟨hv3_33, hJ⟩ := hJ
      refine zq_iinc (y := x3 + 1) (lv' := [some (zr 0), some (zi x1), some (zi x2), some (zi (x3 + 1)), none, none, none]) C dX8_layLatest_37 rfl rfl hv3_33 rfl ?_
      obtain ⟨v3_33, ev3_33⟩ : ∃ z, z = x3 + 1 := ⟨_, rfl⟩
      rw [← ev3_33]
      have hJ := hJ v3_33 ev3_33
      refine zq_goto (tgt := 18) C dX8_layLatest_40 rfl ?_
      exact hK18 _ hJ
  refine zq_aload_n (i := 0) C dX8_layLatest_0 rfl rfl ?_
  refine zq_callVv C [] (wM_layPushes l _  hJ) ck_X8_124 iv_X8_layPushes rfl sm0 rfl rfl rfl rfl rfl rfl dX8_layLatest_1 (fun M1 hJ => ?_)
  refine zq_aload_n (i := 0) C dX8_layLatest_4 rfl rfl ?_
  refine zq_getr C fk_X8_7 sm0 rfl dX8_layLatest_5 ?_
  refine zq_iconst (x := 0) C dX8_layLatest_8 rfl ik_0 ?_
  refine zq_iald C sm1 (by decide) (by decide) dX8_layLatest_9 ?_
  refine zq_istoreN_n (i := 1) C (fun v => [some (zr 0), some (zi v), none, none, none, none, none]) dX8_layLatest_10 rfl (Nat.le_of_ble_eq_true rfl) (fun _ => rfl) (fun v1_2 hv1_2 => ?_)
  have hJ := hJ v1_2 hv1_2
  refine zq_aload_n (i := 0) C dX8_layLatest_11 rfl rfl ?_
  refine zq_callVi C [] (wM_greatestEnd l _  hJ) ck_X8_111 iv_X8_greatestEnd rfl sm0 rfl rfl rfl rfl rfl rfl dX8_layLatest_12 (fun r3 N4 hN4 => ?_)
  obtain ⟨rfl, hJ⟩ := hN4
  refine zq_istore_n (i := 2) (lv' := [some (zr 0), some (zi v1_2), some (zi r3), none, none, none, none]) C dX8_layLatest_15 rfl (Nat.le_of_ble_eq_true rfl) rfl ?_
  refine zq_iconst (x := 0) C dX8_layLatest_16 rfl ik_0 ?_
  refine zq_istore_n (i := 3) (lv' := [some (zr 0), some (zi v1_2), some (zi r3), some (zi 0), none, none, none]) C dX8_layLatest_17 rfl (Nat.le_of_ble_eq_true rfl) rfl ?_
  exact hl18 _ _ _ hJ
set_option maxRecDepth 100000 in
set_option maxHeartbeats 4000000 in
theorem wM_slack (l : Launch) (a1 : Int) (M : zM) {Φ : Int → zM → Prop} (hJ : jM_slack a1 M Φ) : zMet l yX8_slack cX8_slack 2 (some .int) 6 136 shM [zr 0, zi a1] M (zI Φ) := by
  refine zq_enter [some (zr 0), some (zi a1)] (by decide) rfl (Nat.le_of_ble_eq_true rfl) rfl (fun X C => ?_)
  unfold jM_slack at hJ
  refine zq_aload_n (i := 0) C dX8_slack_0 rfl rfl ?_
  refine zq_callVv C [] (wM_layLatest l _  hJ) ck_X8_127 iv_X8_layLatest rfl sm0 rfl rfl rfl rfl rfl rfl dX8_slack_1 (fun M1 hJ => ?_)
  refine zq_aload_n (i := 0) C dX8_slack_4 rfl rfl ?_
  refine zq_getr C fk_X8_32 sm0 rfl dX8_slack_5 ?_
  refine zq_iload_n (i := 1) C dX8_slack_8 rfl rfl ?_
  obtain ⟨h2, h2', hJ⟩ := hJ
  refine zq_iald C sm8 h2 h2' dX8_slack_9 ?_
  refine zq_aload_n (i := 0) C dX8_slack_10 rfl rfl ?_
  refine zq_iload_n (i := 1) C dX8_slack_11 rfl rfl ?_
  refine zq_iconst (x := 2) C dX8_slack_12 rfl ik_2 ?_
  refine zq_callVi C [zi a1, zi 2] (wM_of l _ _ _  hJ) ck_X8_48 iv_X8_of rfl sm0 rfl rfl rfl rfl rfl rfl dX8_slack_13 (fun r3 N4 hN4 => ?_)
  obtain ⟨rfl, hJ⟩ := hN4
  obtain ⟨h5, hJ⟩ := hJ
  refine zq_isub C dX8_slack_16 h5 ?_
  exact zq_iret C rfl ⟨_, rfl, hJ⟩ dX8_slack_17
set_option maxRecDepth 100000 in
set_option maxHeartbeats 4000000 in
theorem wM_critical (l : Launch)  (M : zM) {Φ : Int → zM → Prop} (hJ : jM_critical  M Φ) : zMet l yX8_critical cX8_critical 3 (some .int) 6 136 shM [zr 0] M (zI Φ) := by
  refine zq_enter [some (zr 0), none, none] (by decide) rfl (Nat.le_of_ble_eq_true rfl) rfl (fun X C => ?_)
  unfold jM_critical at hJ
  have hl8 : ∀ (M : zM) (s : Int × Int), zwh (fun K s => jM_critical_L8  K Φ M (s.1) (s.2)) s → zG X M 8 [some (zr 0), some (zi (s.1)), some (zi (s.2))] [] := by
    intro M
    refine zwh_sound ?_
    intro K8 s hK8 hJ
    obtain ⟨x1, x2⟩ := s
    have hJ : jM_critical_L8  K8 Φ M x1 x2 := hJ
    show zG X M 8 [some (zr 0), some (zi x1), some (zi x2)] []
    unfold jM_critical_L8 at hJ
    refine zq_iload_n (i := 2) C dX8_critical_8 rfl rfl ?_
    refine zq_aload_n (i := 0) C dX8_critical_9 rfl rfl ?_
    refine zq_getr C fk_X8_7 sm0 rfl dX8_critical_10 ?_
    refine zq_iconst (x := 0) C dX8_critical_13 rfl ik_0 ?_
    refine zq_iald C sm1 (by decide) (by decide) dX8_critical_14 ?_
    refine zq_icmp_ge (tgt := 47) C dX8_critical_15 rfl (fun h12 => ?_) (fun h12 => ?_)
    · have hJ := hJ.1 h12
      refine zq_iload_n (i := 1) C dX8_critical_47 rfl rfl ?_
      exact zq_iret C rfl ⟨_, rfl, hJ⟩ dX8_critical_48
    · have hJ := hJ.2 h12
      refine zq_iload_n (i := 1) C dX8_critical_18 rfl rfl ?_
      refine zq_aload_n (i := 0) C dX8_critical_19 rfl rfl ?_
      refine zq_getr C fk_X8_32 sm0 rfl dX8_critical_20 ?_
      refine zq_iload_n (i := 2) C dX8_critical_23 rfl rfl ?_
      obtain ⟨h2, h2', hJ⟩ := hJ
      refine zq_iald C sm8 h2 h2' dX8_critical_24 ?_
      refine zq_aload_n (i := 0) C dX8_critical_25 rfl rfl ?_
      refine zq_iload_n (i := 2) C dX8_critical_26 rfl rfl ?_
      refine zq_iconst (x := 2) C dX8_critical_27 rfl ik_2 ?_
      refine zq_callVi C [zi x2, zi 2] (wM_of l _ _ _  hJ) ck_X8_48 iv_X8_of rfl sm0 rfl rfl rfl rfl rfl rfl dX8_critical_28 (fun r3 N4 hN4 => ?_)
      obtain ⟨rfl, hJ⟩ := hN4
      refine zq_icmp_ne (tgt := 38) C dX8_critical_31 rfl (fun h11 => ?_) (fun h11 => ?_)
      · have hJ := hJ.1 h11
        refine zq_iconst (x := 0) C dX8_critical_38 rfl ik_0 ?_
        obtain ⟨h5, hJ⟩ := hJ
        refine zq_iadd C dX8_critical_39 h5 ?_
        refine zq_istoreN_n (i := 1) C (fun v => [some (zr 0), some (zi v), some (zi x2)]) dX8_critical_40 rfl (Nat.le_of_ble_eq_true rfl) (fun _ => rfl) (fun v1_6 hv1_6 => ?_)
        have hJ := hJ v1_6 hv1_6
        obtain ⟨hv2_7, hJ⟩ := hJ
        refine zq_iinc (y := x2 + 1) (lv' := [some (zr 0), some (zi v1_6), some (zi (x2 + 1))]) C dX8_critical_41 rfl rfl hv2_7 rfl ?_
        obtain ⟨v2_7, ev2_7⟩ : ∃ z, z = x2 + 1 := ⟨_, rfl⟩
        rw [← ev2_7]
        have hJ := hJ v2_7 ev2_7
        refine zq_goto (tgt := 8) C dX8_critical_44 rfl ?_
        exact hK8 _ hJ
      · have hJ := hJ.2 h11
        refine zq_iconst (x := 1) C dX8_critical_34 rfl ik_1 ?_
        refine zq_goto (tgt := 39) C dX8_critical_35 rfl ?_
        obtain ⟨h8, hJ⟩ := hJ
        refine zq_iadd C dX8_critical_39 h8 ?_
        refine zq_istoreN_n (i := 1) C (fun v => [some (zr 0), some (zi v), some (zi x2)]) dX8_critical_40 rfl (Nat.le_of_ble_eq_true rfl) (fun _ => rfl) (fun v1_9 hv1_9 => ?_)
        have hJ := hJ v1_9 hv1_9
        obtain ⟨hv2_10, hJ⟩ := hJ
        refine zq_iinc (y := x2 + 1) (lv' := [some (zr 0), some (zi v1_9), some (zi (x2 + 1))]) C dX8_critical_41 rfl rfl hv2_10 rfl ?_
        obtain ⟨v2_10, ev2_10⟩ : ∃ z, z = x2 + 1 := ⟨_, rfl⟩
        rw [← ev2_10]
        have hJ := hJ v2_10 ev2_10
        refine zq_goto (tgt := 8) C dX8_critical_44 rfl ?_
        exact hK8 _ hJ
  refine zq_aload_n (i := 0) C dX8_critical_0 rfl rfl ?_
  refine zq_callVv C [] (wM_layLatest l _  hJ) ck_X8_127 iv_X8_layLatest rfl sm0 rfl rfl rfl rfl rfl rfl dX8_critical_1 (fun M1 hJ => ?_)
  refine zq_iconst (x := 0) C dX8_critical_4 rfl ik_0 ?_
  refine zq_istore_n (i := 1) (lv' := [some (zr 0), some (zi 0), none]) C dX8_critical_5 rfl (Nat.le_of_ble_eq_true rfl) rfl ?_
  refine zq_iconst (x := 0) C dX8_critical_6 rfl ik_0 ?_
  refine zq_istore_n (i := 2) (lv' := [some (zr 0), some (zi 0), some (zi 0)]) C dX8_critical_7 rfl (Nat.le_of_ble_eq_true rfl) rfl ?_
  exact hl8 _ _ hJ
