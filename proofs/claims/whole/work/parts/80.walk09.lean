set_option maxRecDepth 100000 in
set_option maxHeartbeats 4000000 in
theorem wM_share (l : Launch)  (M : zM) {Φ : UInt64 → Prop} (hJ : jM_share  M Φ) : zMet l yX8_share cX8_share 3 (some .double) 5 111 shM [zr 0] M (fun v M' => ∃ z, v = zd z ∧ M = M' ∧ Φ z) := by
  refine zq_enter [some (zr 0), none, none] (by decide) rfl (Nat.le_of_ble_eq_true rfl) rfl (fun X C => ?_)
  unfold jM_share at hJ
  have hl4 : ∀ (s : Int × Int), zwh (fun K s => jM_share_L4  K Φ M (s.1) (s.2)) s → zG X M 4 [some (zr 0), some (zi (s.1)), some (zi (s.2))] [] := by
    refine zwh_sound ?_
    intro K4 s hK4 hJ
    obtain ⟨x1, x2⟩ := s
    have hJ : jM_share_L4  K4 Φ M x1 x2 := hJ
    show zG X M 4 [some (zr 0), some (zi x1), some (zi x2)] []
    unfold jM_share_L4 at hJ
    refine zq_iload_n (i := 2) C dX8_share_4 rfl rfl ?_
    refine zq_aload_n (i := 0) C dX8_share_5 rfl rfl ?_
    refine zq_getr C fk_X8_7 sm0 rfl dX8_share_6 ?_
    refine zq_iconst (x := 0) C dX8_share_9 rfl ik_0 ?_
    refine zq_iald C sm1 (by decide) (by decide) dX8_share_10 ?_
    refine zq_icmp_ge (tgt := 38) C dX8_share_11 rfl (fun h19 => ?_) (fun h19 => ?_)
    · have hJ := hJ.1 h19
      refine zq_aload_n (i := 0) C dX8_share_38 rfl rfl ?_
      refine zq_getr C fk_X8_7 sm0 rfl dX8_share_39 ?_
      refine zq_iconst (x := 0) C dX8_share_42 rfl ik_0 ?_
      refine zq_iald C sm1 (by decide) (by decide) dX8_share_43 ?_
      refine zq_if_ne (tgt := 51) C dX8_share_44 rfl (fun h9 => ?_) (fun h9 => ?_)
      · have hJ := hJ.1 h9
        refine zq_iload_n (i := 1) C dX8_share_51 rfl rfl ?_
        refine zq_i2d C dX8_share_52 ?_
        refine zq_aload_n (i := 0) C dX8_share_53 rfl rfl ?_
        refine zq_iconst (x := 0) C dX8_share_54 rfl ik_0 ?_
        refine zq_aload_n (i := 0) C dX8_share_55 rfl rfl ?_
        refine zq_callVi C [] (wM_greatestEnd l _  hJ) ck_X8_111 iv_X8_greatestEnd rfl sm0 rfl rfl rfl rfl rfl rfl dX8_share_56 (fun r1 N2 hN2 => ?_)
        obtain ⟨rfl, hJ⟩ := hN2
        refine zq_callVi C [zi 0, zi r1] (wM_widthOf l _ _ _  hJ) ck_X8_115 iv_X8_widthOf rfl sm0 rfl rfl rfl rfl rfl rfl dX8_share_59 (fun r3 N4 hN4 => ?_)
        obtain ⟨rfl, hJ⟩ := hN4
        refine zq_i2d C dX8_share_62 ?_
        refine zq_aload_n (i := 0) C dX8_share_63 rfl rfl ?_
        refine zq_callVi C [] (wM_lanes l _  hJ) ck_X8_157 iv_X8_lanes rfl sm0 rfl rfl rfl rfl rfl rfl dX8_share_64 (fun r5 N6 hN6 => ?_)
        obtain ⟨rfl, hJ⟩ := hN6
        refine zq_i2d C dX8_share_67 ?_
        obtain ⟨h7, hJ⟩ := hJ
        refine zq_dmul C h7 dX8_share_68 ?_
        obtain ⟨h8, hJ⟩ := hJ
        refine zq_ddiv C h8 dX8_share_69 ?_
        exact zq_dret C rfl ⟨_, rfl, rfl, hJ⟩ dX8_share_70
      · have hJ := hJ.2 h9
        refine zq_dconst0 C dX8_share_47 ?_
        refine zq_goto (tgt := 70) C dX8_share_48 rfl ?_
        exact zq_dret C rfl ⟨_, rfl, rfl, hJ⟩ dX8_share_70
    · have hJ := hJ.2 h19
      refine zq_iload_n (i := 1) C dX8_share_14 rfl rfl ?_
      refine zq_aload_n (i := 0) C dX8_share_15 rfl rfl ?_
      refine zq_aload_n (i := 0) C dX8_share_16 rfl rfl ?_
      refine zq_iload_n (i := 2) C dX8_share_17 rfl rfl ?_
      refine zq_iconst (x := 2) C dX8_share_18 rfl ik_2 ?_
      refine zq_callVi C [zi x2, zi 2] (wM_of l _ _ _  hJ) ck_X8_48 iv_X8_of rfl sm0 rfl rfl rfl rfl rfl rfl dX8_share_19 (fun r10 N11 hN11 => ?_)
      obtain ⟨rfl, hJ⟩ := hN11
      refine zq_aload_n (i := 0) C dX8_share_22 rfl rfl ?_
      refine zq_iload_n (i := 2) C dX8_share_23 rfl rfl ?_
      refine zq_callVi C [zi x2] (wM_end l _ _  hJ) ck_X8_56 iv_X8_end rfl sm0 rfl rfl rfl rfl rfl rfl dX8_share_24 (fun r12 N13 hN13 => ?_)
      obtain ⟨rfl, hJ⟩ := hN13
      refine zq_callVi C [zi r10, zi r12] (wM_widthOf l _ _ _  hJ) ck_X8_115 iv_X8_widthOf rfl sm0 rfl rfl rfl rfl rfl rfl dX8_share_27 (fun r14 N15 hN15 => ?_)
      obtain ⟨rfl, hJ⟩ := hN15
      obtain ⟨h16, hJ⟩ := hJ
      refine zq_iadd C dX8_share_30 h16 ?_
      refine zq_istoreN_n (i := 1) C (fun v => [some (zr 0), some (zi v), some (zi x2)]) dX8_share_31 rfl (Nat.le_of_ble_eq_true rfl) (fun _ => rfl) (fun v1_17 hv1_17 => ?_)
      have hJ := hJ v1_17 hv1_17
      obtain ⟨hv2_18, hJ⟩ := hJ
      refine zq_iinc (y := x2 + 1) (lv' := [some (zr 0), some (zi v1_17), some (zi (x2 + 1))]) C dX8_share_32 rfl rfl hv2_18 rfl ?_
      obtain ⟨v2_18, ev2_18⟩ : ∃ z, z = x2 + 1 := ⟨_, rfl⟩
      rw [← ev2_18]
      have hJ := hJ v2_18 ev2_18
      refine zq_goto (tgt := 4) C dX8_share_35 rfl ?_
      exact hK4 _ hJ
  refine zq_iconst (x := 0) C dX8_share_0 rfl ik_0 ?_
  refine zq_istore_n (i := 1) (lv' := [some (zr 0), some (zi 0), none]) C dX8_share_1 rfl (Nat.le_of_ble_eq_true rfl) rfl ?_
  refine zq_iconst (x := 0) C dX8_share_2 rfl ik_0 ?_
  refine zq_istore_n (i := 2) (lv' := [some (zr 0), some (zi 0), some (zi 0)]) C dX8_share_3 rfl (Nat.le_of_ble_eq_true rfl) rfl ?_
  exact hl4 _ hJ
set_option maxRecDepth 100000 in
set_option maxHeartbeats 4000000 in
theorem wM_ifSlipped (l : Launch) (a1 a2 : Int) (M : zM) {Φ : Int → zM → Prop} (hJ : jM_ifSlipped a1 a2 M Φ) : zMet l yX8_ifSlipped cX8_ifSlipped 6 (some .int) 6 136 shM [zr 0, zi a1, zi a2] M (zI Φ) := by
  refine zq_enter [some (zr 0), some (zi a1), some (zi a2), none, none, none] (by decide) rfl (Nat.le_of_ble_eq_true rfl) rfl (fun X C => ?_)
  unfold jM_ifSlipped at hJ
  refine zq_aload_n (i := 0) C dX8_ifSlipped_0 rfl rfl ?_
  refine zq_iload_n (i := 1) C dX8_ifSlipped_1 rfl rfl ?_
  refine zq_callVi C [zi a1] (wM_find l _ _  hJ) ck_X8_52 iv_X8_find rfl sm0 rfl rfl rfl rfl rfl rfl dX8_ifSlipped_2 (fun r1 N2 hN2 => ?_)
  obtain ⟨rfl, hJ⟩ := hN2
  refine zq_istore_n (i := 3) (lv' := [some (zr 0), some (zi a1), some (zi a2), some (zi r1), none, none]) C dX8_ifSlipped_5 rfl (Nat.le_of_ble_eq_true rfl) rfl ?_
  refine zq_iload_n (i := 3) C dX8_ifSlipped_6 rfl rfl ?_
  refine zq_bipush (x := (-5)) C dX8_ifSlipped_7 bi_m5 ik_m5 ?_
  refine zq_icmp_ne (tgt := 14) C dX8_ifSlipped_9 rfl (fun h12 => ?_) (fun h12 => ?_)
  · have hJ := hJ.1 h12
    refine zq_iload_n (i := 2) C dX8_ifSlipped_14 rfl rfl ?_
    refine zq_iconst (x := 1) C dX8_ifSlipped_15 rfl ik_1 ?_
    refine zq_bipush (x := 30) C dX8_ifSlipped_16 bi_30 ik_30 ?_
    refine zq_callSi C [zi a2, zi 1, zi 30] (wM_in l _ _ _ _  hJ) ck_X8_79 st_X8_in rfl rfl rfl rfl rfl rfl dX8_ifSlipped_18 (fun r3 N4 hN4 => ?_)
    obtain ⟨rfl, hJ⟩ := hN4
    refine zq_if_ne (tgt := 27) C dX8_ifSlipped_21 rfl (fun h11 => ?_) (fun h11 => ?_)
    · have hJ := hJ.1 h11
      refine zq_aload_n (i := 0) C dX8_ifSlipped_27 rfl rfl ?_
      refine zq_callVv C [] (wM_putAside l _  hJ) ck_X8_163 iv_X8_putAside rfl sm0 rfl rfl rfl rfl rfl rfl dX8_ifSlipped_28 (fun M5 hJ => ?_)
      refine zq_aload_n (i := 0) C dX8_ifSlipped_31 rfl rfl ?_
      refine zq_iload_n (i := 3) C dX8_ifSlipped_32 rfl rfl ?_
      refine zq_iload_n (i := 2) C dX8_ifSlipped_33 rfl rfl ?_
      refine zq_callVi C [zi r1, zi a2] (wM_slips l _ _ _  hJ) ck_X8_160 iv_X8_slips rfl sm0 rfl rfl rfl rfl rfl rfl dX8_ifSlipped_34 (fun r6 M7 hJ => ?_)
      refine zq_istore (lv' := [some (zr 0), some (zi a1), some (zi a2), some (zi r1), some (zi r6), none]) C dX8_ifSlipped_37 (Nat.le_of_ble_eq_true rfl) rfl ?_
      refine zq_aload_n (i := 0) C dX8_ifSlipped_39 rfl rfl ?_
      refine zq_callVi C [] (wM_greatestEnd l _  hJ) ck_X8_111 iv_X8_greatestEnd rfl sm0 rfl rfl rfl rfl rfl rfl dX8_ifSlipped_40 (fun r8 N9 hN9 => ?_)
      obtain ⟨rfl, hJ⟩ := hN9
      refine zq_istore (lv' := [some (zr 0), some (zi a1), some (zi a2), some (zi r1), some (zi r6), some (zi r8)]) C dX8_ifSlipped_43 (Nat.le_of_ble_eq_true rfl) rfl ?_
      refine zq_aload_n (i := 0) C dX8_ifSlipped_45 rfl rfl ?_
      refine zq_callVv C [] (wM_putBack l _  hJ) ck_X8_41 iv_X8_putBack rfl sm0 rfl rfl rfl rfl rfl rfl dX8_ifSlipped_46 (fun M10 hJ => ?_)
      refine zq_iload C dX8_ifSlipped_49 rfl ?_
      exact zq_iret C rfl ⟨_, rfl, hJ⟩ dX8_ifSlipped_51
    · have hJ := hJ.2 h11
      refine zq_bipush (x := (-2)) C dX8_ifSlipped_24 bi_m2 ik_m2 ?_
      exact zq_iret C rfl ⟨_, rfl, hJ⟩ dX8_ifSlipped_26
  · have hJ := hJ.2 h12
    refine zq_iconst (x := (-1)) C dX8_ifSlipped_12 rfl ik_m1 ?_
    exact zq_iret C rfl ⟨_, rfl, hJ⟩ dX8_ifSlipped_13
set_option maxRecDepth 100000 in
set_option maxHeartbeats 4000000 in
theorem wM_bestSwap (l : Launch) (a1 : Int) (M : zM) {Φ : Int → zM → Prop} (hJ : jM_bestSwap a1 M Φ) : zMet l yX8_bestSwap cX8_bestSwap 11 (some .int) 7 161 shM [zr 0, zi a1] M (zI Φ) := by
  refine zq_enter [some (zr 0), some (zi a1), none, none, none, none, none, none, none, none, none] (by decide) rfl (Nat.le_of_ble_eq_true rfl) rfl (fun X C => ?_)
  unfold jM_bestSwap at hJ
  have hl29 : ∀ (s : Int × Int × Int × Int × zM), zwh (fun K s => jM_bestSwap_L29 a1 K Φ (s.1) (s.2.1) (s.2.2.1) (s.2.2.2.1) (s.2.2.2.2)) s → zG X (s.2.2.2.2) 29 [some (zr 0), some (zi a1), some (zi (s.1)), some (zi (s.2.1)), some (zi (s.2.2.1)), some (zi (s.2.2.2.1)), none, none, none, none, none] [] := by
    refine zwh_sound ?_
    intro K29 s hK29 hJ
    obtain ⟨x2, x3, x4, x5, M⟩ := s
    have hJ : jM_bestSwap_L29 a1 K29 Φ x2 x3 x4 x5 M := hJ
    show zG X M 29 [some (zr 0), some (zi a1), some (zi x2), some (zi x3), some (zi x4), some (zi x5), none, none, none, none, none] []
    unfold jM_bestSwap_L29 at hJ
    have hj152 : ∀ (x3 x4 x5 x6 x7 s0 : Int) (M : zM), jM_bestSwap_J152 a1 K29 Φ x3 x4 x5 x6 x7 s0 M → zG X M 152 [some (zr 0), some (zi a1), none, some (zi x3), some (zi x4), some (zi x5), some (zi x6), some (zi x7), none, none, none] [zi s0] := by
      intro x3 x4 x5 x6 x7 s0 M hJ
      unfold jM_bestSwap_J152 at hJ
      refine zq_istore_n (i := 2) (lv' := [some (zr 0), some (zi a1), some (zi s0), some (zi x3), some (zi x4), some (zi x5), some (zi x6), some (zi x7), none, none, none]) C dX8_bestSwap_152 rfl (Nat.le_of_ble_eq_true rfl) rfl ?_
      refine zq_aload_n (i := 0) C dX8_bestSwap_153 rfl rfl ?_
      refine zq_iload C dX8_bestSwap_154 rfl ?_
      refine zq_iload C dX8_bestSwap_156 rfl ?_
      refine zq_callVv C [zi x6, zi x7] (wM_swapLanes l _ _ _  hJ) ck_X8_150 iv_X8_swapLanes rfl sm0 rfl rfl rfl rfl rfl rfl dX8_bestSwap_158 (fun M21 hJ => ?_)
      obtain ⟨hv5_22, hJ⟩ := hJ
      refine zq_iinc (y := x5 + 1) (lv' := [some (zr 0), some (zi a1), some (zi s0), some (zi x3), some (zi x4), some (zi (x5 + 1)), some (zi x6), some (zi x7), none, none, none]) C dX8_bestSwap_161 rfl rfl hv5_22 rfl ?_
      obtain ⟨v5_22, ev5_22⟩ : ∃ z, z = x5 + 1 := ⟨_, rfl⟩
      rw [← ev5_22]
      have hJ := hJ v5_22 ev5_22
      refine zq_goto (tgt := 29) C dX8_bestSwap_164 rfl ?_
      refine zq_weak [some (zr 0), some (zi a1), some (zi s0), some (zi x3), some (zi x4), some (zi v5_22), none, none, none, none, none] ⟨Or.inr rfl, Or.inr rfl, Or.inr rfl, Or.inr rfl, Or.inr rfl, Or.inr rfl, Or.inl rfl, Or.inl rfl, Or.inl rfl, Or.inl rfl, Or.inl rfl, trivial⟩ ?_
      exact hK29 _ hJ
    have hj140 : ∀ (x2 x4 x5 x6 x7 x8 x10 s0 : Int) (M : zM), jM_bestSwap_J140 a1 K29 Φ x2 x4 x5 x6 x7 x8 x10 s0 M → zG X M 140 [some (zr 0), some (zi a1), some (zi x2), none, some (zi x4), some (zi x5), some (zi x6), some (zi x7), some (zi x8), none, some (zi x10)] [zi s0] := by
      intro x2 x4 x5 x6 x7 x8 x10 s0 M hJ
      unfold jM_bestSwap_J140 at hJ
      refine zq_istore_n (i := 3) (lv' := [some (zr 0), some (zi a1), some (zi x2), some (zi s0), some (zi x4), some (zi x5), some (zi x6), some (zi x7), some (zi x8), none, some (zi x10)]) C dX8_bestSwap_140 rfl (Nat.le_of_ble_eq_true rfl) rfl ?_
      refine zq_iload C dX8_bestSwap_141 rfl ?_
      refine zq_if_eq (tgt := 151) C dX8_bestSwap_143 rfl (fun h23 => ?_) (fun h23 => ?_)
      · have hJ := hJ.1 h23
        refine zq_iload_n (i := 2) C dX8_bestSwap_151 rfl rfl ?_
        refine zq_weak [some (zr 0), some (zi a1), none, some (zi s0), some (zi x4), some (zi x5), some (zi x6), some (zi x7), none, none, none] ⟨Or.inr rfl, Or.inr rfl, Or.inl rfl, Or.inr rfl, Or.inr rfl, Or.inr rfl, Or.inr rfl, Or.inr rfl, Or.inl rfl, Or.inl rfl, Or.inl rfl, trivial⟩ ?_
        exact hj152 _ _ _ _ _ _ _ hJ
      · have hJ := hJ.2 h23
        refine zq_iload C dX8_bestSwap_146 rfl ?_
        refine zq_goto (tgt := 152) C dX8_bestSwap_148 rfl ?_
        refine zq_weak [some (zr 0), some (zi a1), none, some (zi s0), some (zi x4), some (zi x5), some (zi x6), some (zi x7), none, none, none] ⟨Or.inr rfl, Or.inr rfl, Or.inl rfl, Or.inr rfl, Or.inr rfl, Or.inr rfl, Or.inr rfl, Or.inr rfl, Or.inl rfl, Or.inl rfl, Or.inl rfl, trivial⟩ ?_
        exact hj152 _ _ _ _ _ _ _ hJ
    have hj127 : ∀ (x2 x3 x5 x6 x7 x8 x9 x10 s0 : Int) (M : zM), jM_bestSwap_J127 a1 K29 Φ x2 x3 x5 x6 x7 x8 x9 x10 s0 M → zG X M 127 [some (zr 0), some (zi a1), some (zi x2), some (zi x3), none, some (zi x5), some (zi x6), some (zi x7), some (zi x8), some (zi x9), some (zi x10)] [zi s0] := by
      intro x2 x3 x5 x6 x7 x8 x9 x10 s0 M hJ
      unfold jM_bestSwap_J127 at hJ
      refine zq_istore (lv' := [some (zr 0), some (zi a1), some (zi x2), some (zi x3), some (zi s0), some (zi x5), some (zi x6), some (zi x7), some (zi x8), some (zi x9), some (zi x10)]) C dX8_bestSwap_127 (Nat.le_of_ble_eq_true rfl) rfl ?_
      refine zq_iload C dX8_bestSwap_129 rfl ?_
      refine zq_if_eq (tgt := 139) C dX8_bestSwap_131 rfl (fun h24 => ?_) (fun h24 => ?_)
      · have hJ := hJ.1 h24
        refine zq_iload_n (i := 3) C dX8_bestSwap_139 rfl rfl ?_
        refine zq_weak [some (zr 0), some (zi a1), some (zi x2), none, some (zi s0), some (zi x5), some (zi x6), some (zi x7), some (zi x8), none, some (zi x10)] ⟨Or.inr rfl, Or.inr rfl, Or.inr rfl, Or.inl rfl, Or.inr rfl, Or.inr rfl, Or.inr rfl, Or.inr rfl, Or.inr rfl, Or.inl rfl, Or.inr rfl, trivial⟩ ?_
        exact hj140 _ _ _ _ _ _ _ _ _ hJ
      · have hJ := hJ.2 h24
        refine zq_iload C dX8_bestSwap_134 rfl ?_
        refine zq_goto (tgt := 140) C dX8_bestSwap_136 rfl ?_
        refine zq_weak [some (zr 0), some (zi a1), some (zi x2), none, some (zi s0), some (zi x5), some (zi x6), some (zi x7), some (zi x8), none, some (zi x10)] ⟨Or.inr rfl, Or.inr rfl, Or.inr rfl, Or.inl rfl, Or.inr rfl, Or.inr rfl, Or.inr rfl, Or.inr rfl, Or.inr rfl, Or.inl rfl, Or.inr rfl, trivial⟩ ?_
        exact hj140 _ _ _ _ _ _ _ _ _ hJ
    have hj113 : ∀ (x2 x3 x4 x5 x6 x7 x8 x9 s0 : Int) (M : zM), jM_bestSwap_J113 a1 K29 Φ x2 x3 x4 x5 x6 x7 x8 x9 s0 M → zG X M 113 [some (zr 0), some (zi a1), some (zi x2), some (zi x3), some (zi x4), some (zi x5), some (zi x6), some (zi x7), some (zi x8), some (zi x9), none] [zi s0] := by
      intro x2 x3 x4 x5 x6 x7 x8 x9 s0 M hJ
      unfold jM_bestSwap_J113 at hJ
      refine zq_istore (lv' := [some (zr 0), some (zi a1), some (zi x2), some (zi x3), some (zi x4), some (zi x5), some (zi x6), some (zi x7), some (zi x8), some (zi x9), some (zi s0)]) C dX8_bestSwap_113 (Nat.le_of_ble_eq_true rfl) rfl ?_
      refine zq_iload C dX8_bestSwap_115 rfl ?_
      refine zq_if_eq (tgt := 125) C dX8_bestSwap_117 rfl (fun h25 => ?_) (fun h25 => ?_)
      · have hJ := hJ.1 h25
        refine zq_iload C dX8_bestSwap_125 rfl ?_
        refine zq_weak [some (zr 0), some (zi a1), some (zi x2), some (zi x3), none, some (zi x5), some (zi x6), some (zi x7), some (zi x8), some (zi x9), some (zi s0)] ⟨Or.inr rfl, Or.inr rfl, Or.inr rfl, Or.inr rfl, Or.inl rfl, Or.inr rfl, Or.inr rfl, Or.inr rfl, Or.inr rfl, Or.inr rfl, Or.inr rfl, trivial⟩ ?_
        exact hj127 _ _ _ _ _ _ _ _ _ _ hJ
      · have hJ := hJ.2 h25
        refine zq_iload C dX8_bestSwap_120 rfl ?_
        refine zq_goto (tgt := 127) C dX8_bestSwap_122 rfl ?_
        refine zq_weak [some (zr 0), some (zi a1), some (zi x2), some (zi x3), none, some (zi x5), some (zi x6), some (zi x7), some (zi x8), some (zi x9), some (zi s0)] ⟨Or.inr rfl, Or.inr rfl, Or.inr rfl, Or.inr rfl, Or.inl rfl, Or.inr rfl, Or.inr rfl, Or.inr rfl, Or.inr rfl, Or.inr rfl, Or.inr rfl, trivial⟩ ?_
        exact hj127 _ _ _ _ _ _ _ _ _ _ hJ
    have hj108 : ∀ (x2 x3 x4 x5 x6 x7 x8 x9 : Int) (M : zM), jM_bestSwap_J108 a1 K29 Φ x2 x3 x4 x5 x6 x7 x8 x9 M → zG X M 108 [some (zr 0), some (zi a1), some (zi x2), some (zi x3), some (zi x4), some (zi x5), some (zi x6), some (zi x7), some (zi x8), some (zi x9), none] [] := by
      intro x2 x3 x4 x5 x6 x7 x8 x9 M hJ
      unfold jM_bestSwap_J108 at hJ
      refine zq_iconst (x := 1) C dX8_bestSwap_108 rfl ik_1 ?_
      refine zq_goto (tgt := 113) C dX8_bestSwap_109 rfl ?_
      exact hj113 _ _ _ _ _ _ _ _ _ _ hJ
    have hj112 : ∀ (x2 x3 x4 x5 x6 x7 x8 x9 : Int) (M : zM), jM_bestSwap_J112 a1 K29 Φ x2 x3 x4 x5 x6 x7 x8 x9 M → zG X M 112 [some (zr 0), some (zi a1), some (zi x2), some (zi x3), some (zi x4), some (zi x5), some (zi x6), some (zi x7), some (zi x8), some (zi x9), none] [] := by
      intro x2 x3 x4 x5 x6 x7 x8 x9 M hJ
      unfold jM_bestSwap_J112 at hJ
      refine zq_iconst (x := 0) C dX8_bestSwap_112 rfl ik_0 ?_
      exact hj113 _ _ _ _ _ _ _ _ _ _ hJ
    have hj88 : ∀ (x2 x3 x4 x5 x6 x7 x8 s0 : Int) (M : zM), jM_bestSwap_J88 a1 K29 Φ x2 x3 x4 x5 x6 x7 x8 s0 M → zG X M 88 [some (zr 0), some (zi a1), some (zi x2), some (zi x3), some (zi x4), some (zi x5), some (zi x6), some (zi x7), some (zi x8), none, none] [zi s0] := by
      intro x2 x3 x4 x5 x6 x7 x8 s0 M hJ
      unfold jM_bestSwap_J88 at hJ
      refine zq_istore (lv' := [some (zr 0), some (zi a1), some (zi x2), some (zi x3), some (zi x4), some (zi x5), some (zi x6), some (zi x7), some (zi x8), some (zi s0), none]) C dX8_bestSwap_88 (Nat.le_of_ble_eq_true rfl) rfl ?_
      refine zq_iload C dX8_bestSwap_90 rfl ?_
      refine zq_iload_n (i := 2) C dX8_bestSwap_92 rfl rfl ?_
      refine zq_icmp_lt (tgt := 108) C dX8_bestSwap_93 rfl (fun h28 => ?_) (fun h28 => ?_)
      · have hJ := hJ.1 h28
        exact hj108 _ _ _ _ _ _ _ _ _ hJ
      · have hJ := hJ.2 h28
        refine zq_iload C dX8_bestSwap_96 rfl ?_
        refine zq_iload_n (i := 2) C dX8_bestSwap_98 rfl rfl ?_
        refine zq_icmp_ne (tgt := 112) C dX8_bestSwap_99 rfl (fun h27 => ?_) (fun h27 => ?_)
        · have hJ := hJ.1 h27
          exact hj112 _ _ _ _ _ _ _ _ _ hJ
        · have hJ := hJ.2 h27
          refine zq_iload C dX8_bestSwap_102 rfl ?_
          refine zq_iload_n (i := 3) C dX8_bestSwap_104 rfl rfl ?_
          refine zq_icmp_ge (tgt := 112) C dX8_bestSwap_105 rfl (fun h26 => ?_) (fun h26 => ?_)
          · have hJ := hJ.1 h26
            exact hj112 _ _ _ _ _ _ _ _ _ hJ
          · have hJ := hJ.2 h26
            exact hj108 _ _ _ _ _ _ _ _ _ hJ
    refine zq_iload C dX8_bestSwap_29 rfl ?_
    refine zq_sipush (x := 144) C dX8_bestSwap_31 si_144 ik_144 ?_
    refine zq_icmp_ge (tgt := 167) C dX8_bestSwap_34 rfl (fun h33 => ?_) (fun h33 => ?_)
    · have hJ := hJ.1 h33
      refine zq_iload C dX8_bestSwap_167 rfl ?_
      refine zq_bipush (x := (-5)) C dX8_bestSwap_169 bi_m5 ik_m5 ?_
      refine zq_icmp_ne (tgt := 179) C dX8_bestSwap_171 rfl (fun h12 => ?_) (fun h12 => ?_)
      · have hJ := hJ.1 h12
        refine zq_iload_n (i := 1) C dX8_bestSwap_179 rfl rfl ?_
        refine zq_if_ne (tgt := 191) C dX8_bestSwap_180 rfl (fun h11 => ?_) (fun h11 => ?_)
        · have hJ := hJ.1 h11
          refine zq_iload_n (i := 1) C dX8_bestSwap_191 rfl rfl ?_
          refine zq_iconst (x := 1) C dX8_bestSwap_192 rfl ik_1 ?_
          refine zq_icmp_ne (tgt := 204) C dX8_bestSwap_193 rfl (fun h9 => ?_) (fun h9 => ?_)
          · have hJ := hJ.1 h9
            refine zq_iload_n (i := 1) C dX8_bestSwap_204 rfl rfl ?_
            refine zq_iconst (x := 2) C dX8_bestSwap_205 rfl ik_2 ?_
            refine zq_icmp_ne (tgt := 213) C dX8_bestSwap_206 rfl (fun h7 => ?_) (fun h7 => ?_)
            · have hJ := hJ.1 h7
              refine zq_iload_n (i := 3) C dX8_bestSwap_213 rfl rfl ?_
              exact zq_iret C rfl ⟨_, rfl, hJ⟩ dX8_bestSwap_214
            · have hJ := hJ.2 h7
              refine zq_iload_n (i := 2) C dX8_bestSwap_209 rfl rfl ?_
              refine zq_goto (tgt := 214) C dX8_bestSwap_210 rfl ?_
              exact zq_iret C rfl ⟨_, rfl, hJ⟩ dX8_bestSwap_214
          · have hJ := hJ.2 h9
            refine zq_iload C dX8_bestSwap_196 rfl ?_
            refine zq_bipush (x := 12) C dX8_bestSwap_198 bi_12 ik_12 ?_
            obtain ⟨h8, hJ⟩ := hJ
            refine zq_irem C dX8_bestSwap_200 h8 (by decide) ?_
            refine zq_goto (tgt := 214) C dX8_bestSwap_201 rfl ?_
            exact zq_iret C rfl ⟨_, rfl, hJ⟩ dX8_bestSwap_214
        · have hJ := hJ.2 h11
          refine zq_iload C dX8_bestSwap_183 rfl ?_
          refine zq_bipush (x := 12) C dX8_bestSwap_185 bi_12 ik_12 ?_
          obtain ⟨h10, hJ⟩ := hJ
          refine zq_idiv C dX8_bestSwap_187 h10 (by decide) ?_
          refine zq_goto (tgt := 214) C dX8_bestSwap_188 rfl ?_
          exact zq_iret C rfl ⟨_, rfl, hJ⟩ dX8_bestSwap_214
      · have hJ := hJ.2 h12
        refine zq_bipush (x := (-5)) C dX8_bestSwap_174 bi_m5 ik_m5 ?_
        refine zq_goto (tgt := 214) C dX8_bestSwap_176 rfl ?_
        exact zq_iret C rfl ⟨_, rfl, hJ⟩ dX8_bestSwap_214
    · have hJ := hJ.2 h33
      refine zq_iload C dX8_bestSwap_37 rfl ?_
      refine zq_bipush (x := 12) C dX8_bestSwap_39 bi_12 ik_12 ?_
      obtain ⟨h13, hJ⟩ := hJ
      refine zq_idiv C dX8_bestSwap_41 h13 (by decide) ?_
      refine zq_istoreN C (fun v => [some (zr 0), some (zi a1), some (zi x2), some (zi x3), some (zi x4), some (zi x5), some (zi v), none, none, none, none]) dX8_bestSwap_42 (Nat.le_of_ble_eq_true rfl) (fun _ => rfl) (fun v6_14 hv6_14 => ?_)
      have hJ := hJ v6_14 hv6_14
      refine zq_iload C dX8_bestSwap_44 rfl ?_
      refine zq_bipush (x := 12) C dX8_bestSwap_46 bi_12 ik_12 ?_
      obtain ⟨h15, hJ⟩ := hJ
      refine zq_irem C dX8_bestSwap_48 h15 (by decide) ?_
      refine zq_istoreN C (fun v => [some (zr 0), some (zi a1), some (zi x2), some (zi x3), some (zi x4), some (zi x5), some (zi v6_14), some (zi v), none, none, none]) dX8_bestSwap_49 (Nat.le_of_ble_eq_true rfl) (fun _ => rfl) (fun v7_16 hv7_16 => ?_)
      have hJ := hJ v7_16 hv7_16
      refine zq_iload C dX8_bestSwap_51 rfl ?_
      refine zq_iload C dX8_bestSwap_53 rfl ?_
      refine zq_icmp_ge (tgt := 161) C dX8_bestSwap_55 rfl (fun h32 => ?_) (fun h32 => ?_)
      · have hJ := hJ.1 h32
        obtain ⟨hv5_17, hJ⟩ := hJ
        refine zq_iinc (y := x5 + 1) (lv' := [some (zr 0), some (zi a1), some (zi x2), some (zi x3), some (zi x4), some (zi (x5 + 1)), some (zi v6_14), some (zi v7_16), none, none, none]) C dX8_bestSwap_161 rfl rfl hv5_17 rfl ?_
        obtain ⟨v5_17, ev5_17⟩ : ∃ z, z = x5 + 1 := ⟨_, rfl⟩
        rw [← ev5_17]
        have hJ := hJ v5_17 ev5_17
        refine zq_goto (tgt := 29) C dX8_bestSwap_164 rfl ?_
        refine zq_weak [some (zr 0), some (zi a1), some (zi x2), some (zi x3), some (zi x4), some (zi v5_17), none, none, none, none, none] ⟨Or.inr rfl, Or.inr rfl, Or.inr rfl, Or.inr rfl, Or.inr rfl, Or.inr rfl, Or.inl rfl, Or.inl rfl, Or.inl rfl, Or.inl rfl, Or.inl rfl, trivial⟩ ?_
        exact hK29 _ hJ
      · have hJ := hJ.2 h32
        refine zq_aload_n (i := 0) C dX8_bestSwap_58 rfl rfl ?_
        refine zq_iload C dX8_bestSwap_59 rfl ?_
        refine zq_iload C dX8_bestSwap_61 rfl ?_
        refine zq_callVv C [zi v6_14, zi v7_16] (wM_swapLanes l _ _ _  hJ) ck_X8_150 iv_X8_swapLanes rfl sm0 rfl rfl rfl rfl rfl rfl dX8_bestSwap_63 (fun M18 hJ => ?_)
        refine zq_aload_n (i := 0) C dX8_bestSwap_66 rfl rfl ?_
        refine zq_callVi C [] (wM_notDrawn l _  hJ) ck_X8_147 iv_X8_notDrawn rfl sm0 rfl rfl rfl rfl rfl rfl dX8_bestSwap_67 (fun r19 N20 hN20 => ?_)
        obtain ⟨rfl, hJ⟩ := hN20
        refine zq_istore (lv' := [some (zr 0), some (zi a1), some (zi x2), some (zi x3), some (zi x4), some (zi x5), some (zi v6_14), some (zi v7_16), some (zi r19), none, none]) C dX8_bestSwap_70 (Nat.le_of_ble_eq_true rfl) rfl ?_
        refine zq_iload C dX8_bestSwap_72 rfl ?_
        refine zq_iload_n (i := 2) C dX8_bestSwap_74 rfl rfl ?_
        refine zq_icmp_gt (tgt := 85) C dX8_bestSwap_75 rfl (fun h31 => ?_) (fun h31 => ?_)
        · have hJ := hJ.1 h31
          refine zq_ldcw (x := 1000000) C kw_X8_258 dX8_bestSwap_85 rfl ik_1000000 ?_
          exact hj88 _ _ _ _ _ _ _ _ _ hJ
        · have hJ := hJ.2 h31
          refine zq_aload_n (i := 0) C dX8_bestSwap_78 rfl rfl ?_
          refine zq_callVi C [] (wM_allPoints l _  hJ) ck_X8_249 iv_X8_allPoints rfl sm0 rfl rfl rfl rfl rfl rfl dX8_bestSwap_79 (fun r29 M30 hJ => ?_)
          refine zq_goto (tgt := 88) C dX8_bestSwap_82 rfl ?_
          exact hj88 _ _ _ _ _ _ _ _ _ hJ
  refine zq_iload_n (i := 1) C dX8_bestSwap_0 rfl rfl ?_
  refine zq_iconst (x := 0) C dX8_bestSwap_1 rfl ik_0 ?_
  refine zq_iconst (x := 3) C dX8_bestSwap_2 rfl ik_3 ?_
  refine zq_callSi C [zi a1, zi 0, zi 3] (wM_in l _ _ _ _  hJ) ck_X8_79 st_X8_in rfl rfl rfl rfl rfl rfl dX8_bestSwap_3 (fun r1 N2 hN2 => ?_)
  obtain ⟨rfl, hJ⟩ := hN2
  refine zq_if_ne (tgt := 12) C dX8_bestSwap_6 rfl (fun h34 => ?_) (fun h34 => ?_)
  · have hJ := hJ.1 h34
    refine zq_aload_n (i := 0) C dX8_bestSwap_12 rfl rfl ?_
    refine zq_callVi C [] (wM_notDrawn l _  hJ) ck_X8_147 iv_X8_notDrawn rfl sm0 rfl rfl rfl rfl rfl rfl dX8_bestSwap_13 (fun r3 N4 hN4 => ?_)
    obtain ⟨rfl, hJ⟩ := hN4
    refine zq_istore_n (i := 2) (lv' := [some (zr 0), some (zi a1), some (zi r3), none, none, none, none, none, none, none, none]) C dX8_bestSwap_16 rfl (Nat.le_of_ble_eq_true rfl) rfl ?_
    refine zq_aload_n (i := 0) C dX8_bestSwap_17 rfl rfl ?_
    refine zq_callVi C [] (wM_allPoints l _  hJ) ck_X8_249 iv_X8_allPoints rfl sm0 rfl rfl rfl rfl rfl rfl dX8_bestSwap_18 (fun r5 M6 hJ => ?_)
    refine zq_istore_n (i := 3) (lv' := [some (zr 0), some (zi a1), some (zi r3), some (zi r5), none, none, none, none, none, none, none]) C dX8_bestSwap_21 rfl (Nat.le_of_ble_eq_true rfl) rfl ?_
    refine zq_bipush (x := (-5)) C dX8_bestSwap_22 bi_m5 ik_m5 ?_
    refine zq_istore (lv' := [some (zr 0), some (zi a1), some (zi r3), some (zi r5), some (zi (-5)), none, none, none, none, none, none]) C dX8_bestSwap_24 (Nat.le_of_ble_eq_true rfl) rfl ?_
    refine zq_iconst (x := 0) C dX8_bestSwap_26 rfl ik_0 ?_
    refine zq_istore (lv' := [some (zr 0), some (zi a1), some (zi r3), some (zi r5), some (zi (-5)), some (zi 0), none, none, none, none, none]) C dX8_bestSwap_27 (Nat.le_of_ble_eq_true rfl) rfl ?_
    exact hl29 _ hJ
  · have hJ := hJ.2 h34
    refine zq_bipush (x := (-2)) C dX8_bestSwap_9 bi_m2 ik_m2 ?_
    exact zq_iret C rfl ⟨_, rfl, hJ⟩ dX8_bestSwap_11
set_option maxRecDepth 100000 in
set_option maxHeartbeats 4000000 in
theorem wM_bestLane (l : Launch) (a1 : Int) (M : zM) {Φ : Int → zM → Prop} (hJ : jM_bestLane a1 M Φ) : zMet l yX8_bestLane cX8_bestLane 8 (some .int) 7 161 shM [zr 0, zi a1] M (zI Φ) := by
  refine zq_enter [some (zr 0), some (zi a1), none, none, none, none, none, none] (by decide) rfl (Nat.le_of_ble_eq_true rfl) rfl (fun X C => ?_)
  unfold jM_bestLane at hJ
  have hl33 : ∀ (x2 x3 : Int) (s : Int × Int × Int × zM), zwh (fun K s => jM_bestLane_L33 a1 K Φ x2 x3 (s.1) (s.2.1) (s.2.2.1) (s.2.2.2)) s → zG X (s.2.2.2) 33 [some (zr 0), some (zi a1), some (zi x2), some (zi x3), some (zi (s.1)), some (zi (s.2.1)), some (zi (s.2.2.1)), none] [] := by
    intro x2 x3
    refine zwh_sound ?_
    intro K33 s hK33 hJ
    obtain ⟨x4, x5, x6, M⟩ := s
    have hJ : jM_bestLane_L33 a1 K33 Φ x2 x3 x4 x5 x6 M := hJ
    show zG X M 33 [some (zr 0), some (zi a1), some (zi x2), some (zi x3), some (zi x4), some (zi x5), some (zi x6), none] []
    unfold jM_bestLane_L33 at hJ
    have hj99 : ∀ (x5 x6 x7 s0 : Int) (M : zM), jM_bestLane_J99 a1 K33 Φ x2 x3 x5 x6 x7 s0 M → zG X M 99 [some (zr 0), some (zi a1), some (zi x2), some (zi x3), none, some (zi x5), some (zi x6), some (zi x7)] [zi s0] := by
      intro x5 x6 x7 s0 M hJ
      unfold jM_bestLane_J99 at hJ
      refine zq_istore (lv' := [some (zr 0), some (zi a1), some (zi x2), some (zi x3), some (zi s0), some (zi x5), some (zi x6), some (zi x7)]) C dX8_bestLane_99 (Nat.le_of_ble_eq_true rfl) rfl ?_
      refine zq_iload C dX8_bestLane_101 rfl ?_
      refine zq_iload C dX8_bestLane_103 rfl ?_
      refine zq_callSi C [zi x7, zi x5] (wM_least l _ _ _  hJ) ck_X8_76 st_X8_least rfl rfl rfl rfl rfl rfl dX8_bestLane_105 (fun r20 N21 hN21 => ?_)
      obtain ⟨rfl, hJ⟩ := hN21
      refine zq_istore (lv' := [some (zr 0), some (zi a1), some (zi x2), some (zi x3), some (zi s0), some (zi r20), some (zi x6), some (zi x7)]) C dX8_bestLane_108 (Nat.le_of_ble_eq_true rfl) rfl ?_
      refine zq_aload_n (i := 0) C dX8_bestLane_110 rfl rfl ?_
      refine zq_getr C fk_X8_7 sm0 rfl dX8_bestLane_111 ?_
      refine zq_iconst (x := 1) C dX8_bestLane_114 rfl ik_1 ?_
      refine zq_iconst (x := 4) C dX8_bestLane_115 rfl ik_4 ?_
      refine zq_iload_n (i := 2) C dX8_bestLane_116 rfl rfl ?_
      obtain ⟨h22, hJ⟩ := hJ
      refine zq_imul C dX8_bestLane_117 h22 ?_
      obtain ⟨h23, hJ⟩ := hJ
      refine zq_iadd C dX8_bestLane_118 h23 ?_
      refine zq_iconst (x := 1) C dX8_bestLane_119 rfl ik_1 ?_
      obtain ⟨h24, hJ⟩ := hJ
      refine zq_iadd C dX8_bestLane_120 h24 ?_
      refine zq_iload_n (i := 3) C dX8_bestLane_121 rfl rfl ?_
      obtain ⟨h25, h25', hJ⟩ := hJ
      refine zq_iast C sm1 h25 h25' dX8_bestLane_122 (fun M26 hM26 => ?_)
      have hJ := hJ M26 hM26
      obtain ⟨hv6_27, hJ⟩ := hJ
      refine zq_iinc (y := x6 + 1) (lv' := [some (zr 0), some (zi a1), some (zi x2), some (zi x3), some (zi s0), some (zi r20), some (zi (x6 + 1)), some (zi x7)]) C dX8_bestLane_123 rfl rfl hv6_27 rfl ?_
      obtain ⟨v6_27, ev6_27⟩ : ∃ z, z = x6 + 1 := ⟨_, rfl⟩
      rw [← ev6_27]
      have hJ := hJ v6_27 ev6_27
      refine zq_goto (tgt := 33) C dX8_bestLane_126 rfl ?_
      refine zq_weak [some (zr 0), some (zi a1), some (zi x2), some (zi x3), some (zi s0), some (zi r20), some (zi v6_27), none] ⟨Or.inr rfl, Or.inr rfl, Or.inr rfl, Or.inr rfl, Or.inr rfl, Or.inr rfl, Or.inr rfl, Or.inl rfl, trivial⟩ ?_
      exact hK33 _ hJ
    refine zq_iload C dX8_bestLane_33 rfl ?_
    refine zq_bipush (x := 12) C dX8_bestLane_35 bi_12 ik_12 ?_
    refine zq_icmp_ge (tgt := 129) C dX8_bestLane_37 rfl (fun h30 => ?_) (fun h30 => ?_)
    · have hJ := hJ.1 h30
      refine zq_iload C dX8_bestLane_129 rfl ?_
      exact zq_iret C rfl ⟨_, rfl, hJ⟩ dX8_bestLane_131
    · have hJ := hJ.2 h30
      refine zq_aload_n (i := 0) C dX8_bestLane_40 rfl rfl ?_
      refine zq_iload C dX8_bestLane_41 rfl ?_
      refine zq_aload_n (i := 0) C dX8_bestLane_43 rfl rfl ?_
      refine zq_iload_n (i := 2) C dX8_bestLane_44 rfl rfl ?_
      refine zq_iconst (x := 2) C dX8_bestLane_45 rfl ik_2 ?_
      refine zq_callVi C [zi x2, zi 2] (wM_of l _ _ _  hJ) ck_X8_48 iv_X8_of rfl sm0 rfl rfl rfl rfl rfl rfl dX8_bestLane_46 (fun r5 N6 hN6 => ?_)
      obtain ⟨rfl, hJ⟩ := hN6
      refine zq_aload_n (i := 0) C dX8_bestLane_49 rfl rfl ?_
      refine zq_iload_n (i := 2) C dX8_bestLane_50 rfl rfl ?_
      refine zq_callVi C [zi x2] (wM_end l _ _  hJ) ck_X8_56 iv_X8_end rfl sm0 rfl rfl rfl rfl rfl rfl dX8_bestLane_51 (fun r7 N8 hN8 => ?_)
      obtain ⟨rfl, hJ⟩ := hN8
      refine zq_iconst (x := 1) C dX8_bestLane_54 rfl ik_1 ?_
      obtain ⟨h9, hJ⟩ := hJ
      refine zq_isub C dX8_bestLane_55 h9 ?_
      refine zq_iload_n (i := 2) C dX8_bestLane_56 rfl rfl ?_
      refine zq_callVi C [zi x6, zi r5, zi (r7 - 1), zi x2] (wM_within l _ _ _ _ _  hJ) ck_X8_62 iv_X8_within rfl sm0 rfl rfl rfl rfl rfl rfl dX8_bestLane_57 (fun r10 N11 hN11 => ?_)
      obtain ⟨rfl, hJ⟩ := hN11
      refine zq_bipush (x := (-5)) C dX8_bestLane_60 bi_m5 ik_m5 ?_
      refine zq_icmp_ne (tgt := 123) C dX8_bestLane_62 rfl (fun h29 => ?_) (fun h29 => ?_)
      · have hJ := hJ.1 h29
        obtain ⟨hv6_12, hJ⟩ := hJ
        refine zq_iinc (y := x6 + 1) (lv' := [some (zr 0), some (zi a1), some (zi x2), some (zi x3), some (zi x4), some (zi x5), some (zi (x6 + 1)), none]) C dX8_bestLane_123 rfl rfl hv6_12 rfl ?_
        obtain ⟨v6_12, ev6_12⟩ : ∃ z, z = x6 + 1 := ⟨_, rfl⟩
        rw [← ev6_12]
        have hJ := hJ v6_12 ev6_12
        refine zq_goto (tgt := 33) C dX8_bestLane_126 rfl ?_
        exact hK33 _ hJ
      · have hJ := hJ.2 h29
        refine zq_aload_n (i := 0) C dX8_bestLane_65 rfl rfl ?_
        refine zq_getr C fk_X8_7 sm0 rfl dX8_bestLane_66 ?_
        refine zq_iconst (x := 1) C dX8_bestLane_69 rfl ik_1 ?_
        refine zq_iconst (x := 4) C dX8_bestLane_70 rfl ik_4 ?_
        refine zq_iload_n (i := 2) C dX8_bestLane_71 rfl rfl ?_
        obtain ⟨h13, hJ⟩ := hJ
        refine zq_imul C dX8_bestLane_72 h13 ?_
        obtain ⟨h14, hJ⟩ := hJ
        refine zq_iadd C dX8_bestLane_73 h14 ?_
        refine zq_iconst (x := 1) C dX8_bestLane_74 rfl ik_1 ?_
        obtain ⟨h15, hJ⟩ := hJ
        refine zq_iadd C dX8_bestLane_75 h15 ?_
        refine zq_iload C dX8_bestLane_76 rfl ?_
        obtain ⟨h16, h16', hJ⟩ := hJ
        refine zq_iast C sm1 h16 h16' dX8_bestLane_78 (fun M17 hM17 => ?_)
        have hJ := hJ M17 hM17
        refine zq_aload_n (i := 0) C dX8_bestLane_79 rfl rfl ?_
        refine zq_callVi C [] (wM_notDrawn l _  hJ) ck_X8_147 iv_X8_notDrawn rfl sm0 rfl rfl rfl rfl rfl rfl dX8_bestLane_80 (fun r18 N19 hN19 => ?_)
        obtain ⟨rfl, hJ⟩ := hN19
        refine zq_istore (lv' := [some (zr 0), some (zi a1), some (zi x2), some (zi x3), some (zi x4), some (zi x5), some (zi x6), some (zi r18)]) C dX8_bestLane_83 (Nat.le_of_ble_eq_true rfl) rfl ?_
        refine zq_iload C dX8_bestLane_85 rfl ?_
        refine zq_iload C dX8_bestLane_87 rfl ?_
        refine zq_icmp_ge (tgt := 97) C dX8_bestLane_89 rfl (fun h28 => ?_) (fun h28 => ?_)
        · have hJ := hJ.1 h28
          refine zq_iload C dX8_bestLane_97 rfl ?_
          refine zq_weak [some (zr 0), some (zi a1), some (zi x2), some (zi x3), none, some (zi x5), some (zi x6), some (zi r18)] ⟨Or.inr rfl, Or.inr rfl, Or.inr rfl, Or.inr rfl, Or.inl rfl, Or.inr rfl, Or.inr rfl, Or.inr rfl, trivial⟩ ?_
          exact hj99 _ _ _ _ _ hJ
        · have hJ := hJ.2 h28
          refine zq_iload C dX8_bestLane_92 rfl ?_
          refine zq_goto (tgt := 99) C dX8_bestLane_94 rfl ?_
          refine zq_weak [some (zr 0), some (zi a1), some (zi x2), some (zi x3), none, some (zi x5), some (zi x6), some (zi r18)] ⟨Or.inr rfl, Or.inr rfl, Or.inr rfl, Or.inr rfl, Or.inl rfl, Or.inr rfl, Or.inr rfl, Or.inr rfl, trivial⟩ ?_
          exact hj99 _ _ _ _ _ hJ
  refine zq_aload_n (i := 0) C dX8_bestLane_0 rfl rfl ?_
  refine zq_iload_n (i := 1) C dX8_bestLane_1 rfl rfl ?_
  refine zq_callVi C [zi a1] (wM_find l _ _  hJ) ck_X8_52 iv_X8_find rfl sm0 rfl rfl rfl rfl rfl rfl dX8_bestLane_2 (fun r1 N2 hN2 => ?_)
  obtain ⟨rfl, hJ⟩ := hN2
  refine zq_istore_n (i := 2) (lv' := [some (zr 0), some (zi a1), some (zi r1), none, none, none, none, none]) C dX8_bestLane_5 rfl (Nat.le_of_ble_eq_true rfl) rfl ?_
  refine zq_iload_n (i := 2) C dX8_bestLane_6 rfl rfl ?_
  refine zq_bipush (x := (-5)) C dX8_bestLane_7 bi_m5 ik_m5 ?_
  refine zq_icmp_ne (tgt := 14) C dX8_bestLane_9 rfl (fun h31 => ?_) (fun h31 => ?_)
  · have hJ := hJ.1 h31
    refine zq_aload_n (i := 0) C dX8_bestLane_14 rfl rfl ?_
    refine zq_iload_n (i := 2) C dX8_bestLane_15 rfl rfl ?_
    refine zq_iconst (x := 1) C dX8_bestLane_16 rfl ik_1 ?_
    refine zq_callVi C [zi r1, zi 1] (wM_of l _ _ _  hJ) ck_X8_48 iv_X8_of rfl sm0 rfl rfl rfl rfl rfl rfl dX8_bestLane_17 (fun r3 N4 hN4 => ?_)
    obtain ⟨rfl, hJ⟩ := hN4
    refine zq_istore_n (i := 3) (lv' := [some (zr 0), some (zi a1), some (zi r1), some (zi r3), none, none, none, none]) C dX8_bestLane_20 rfl (Nat.le_of_ble_eq_true rfl) rfl ?_
    refine zq_bipush (x := (-5)) C dX8_bestLane_21 bi_m5 ik_m5 ?_
    refine zq_istore (lv' := [some (zr 0), some (zi a1), some (zi r1), some (zi r3), some (zi (-5)), none, none, none]) C dX8_bestLane_23 (Nat.le_of_ble_eq_true rfl) rfl ?_
    refine zq_ldcw (x := 1000000) C kw_X8_258 dX8_bestLane_25 rfl ik_1000000 ?_
    refine zq_istore (lv' := [some (zr 0), some (zi a1), some (zi r1), some (zi r3), some (zi (-5)), some (zi 1000000), none, none]) C dX8_bestLane_28 (Nat.le_of_ble_eq_true rfl) rfl ?_
    refine zq_iconst (x := 0) C dX8_bestLane_30 rfl ik_0 ?_
    refine zq_istore (lv' := [some (zr 0), some (zi a1), some (zi r1), some (zi r3), some (zi (-5)), some (zi 1000000), some (zi 0), none]) C dX8_bestLane_31 (Nat.le_of_ble_eq_true rfl) rfl ?_
    exact hl33 _ _ _ hJ
  · have hJ := hJ.2 h31
    refine zq_iconst (x := (-1)) C dX8_bestLane_12 rfl ik_m1 ?_
    exact zq_iret C rfl ⟨_, rfl, hJ⟩ dX8_bestLane_13
