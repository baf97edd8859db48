set_option maxRecDepth 100000 in
set_option maxHeartbeats 4000000 in
theorem wB_stripOf (l : Launch) (a1 : Int) (M : zM) {Φ : Int → zM → Prop} (hJ : jB_stripOf a1 M Φ) : zMet l yX7_stripOf cX7_stripOf 2 (some .int) 3 67 shX [zr 70, zi a1] M (zI Φ) := by
  refine zq_enter [some (zr 70), some (zi a1)] (by decide) rfl (Nat.le_of_ble_eq_true rfl) rfl (fun X C => ?_)
  unfold jB_stripOf at hJ
  refine zq_aload_n (i := 0) C dX7_stripOf_0 rfl rfl ?_
  refine zq_getr C fk_X7_53 sx70 rfl dX7_stripOf_1 ?_
  refine zq_aload_n (i := 0) C dX7_stripOf_4 rfl rfl ?_
  refine zq_getr C fk_X7_10 sx70 rfl dX7_stripOf_5 ?_
  refine zq_callVv C [zr 0] (wK_cut l zch0 _  hJ) ck_X7_244 iv_X1_cut rfl sx85 rfl rfl rfl rfl rfl rfl dX7_stripOf_8 (fun M1 hJ => ?_)
  refine zq_aload_n (i := 0) C dX7_stripOf_11 rfl rfl ?_
  refine zq_getr C fk_X7_53 sx70 rfl dX7_stripOf_12 ?_
  refine zq_iload_n (i := 1) C dX7_stripOf_15 rfl rfl ?_
  refine zq_callVi C [zi a1] (wK_stripOf l _ _  hJ) ck_X7_333 iv_X1_stripOf rfl sx85 rfl rfl rfl rfl rfl rfl dX7_stripOf_16 (fun r2 N3 hN3 => ?_)
  obtain ⟨rfl, hJ⟩ := hN3
  exact zq_iret C rfl ⟨_, rfl, hJ⟩ dX7_stripOf_19
set_option maxRecDepth 100000 in
set_option maxHeartbeats 4000000 in
theorem wC_nextInLane (l : Launch) {b : Nat} (hb : zCh b) (a1 : Int) (M : zM) {Φ : Int → Prop} (hJ : jC_nextInLane b a1 M Φ) : zMet l yX0_nextInLane cX0_nextInLane 5 (some .int) 0 0 shX [zr b, zi a1] M (zI (fun z M' => M = M' ∧ Φ z)) := by
  refine zq_enter [some (zr b), some (zi a1), none, none, none] (by decide) rfl (Nat.le_of_ble_eq_true rfl) rfl (fun X C => ?_)
  unfold jC_nextInLane at hJ
  have hl4 : ∀ (s : Int × Int), zwh (fun K s => jC_nextInLane_L4 b a1 K Φ M (s.1) (s.2)) s → zG X M 4 [some (zr b), some (zi a1), some (zi (s.1)), some (zi (s.2)), none] [] := by
    refine zwh_sound ?_
    intro K4 s hK4 hJ
    obtain ⟨x2, x3⟩ := s
    have hJ : jC_nextInLane_L4 b a1 K4 Φ M x2 x3 := hJ
    show zG X M 4 [some (zr b), some (zi a1), some (zi x2), some (zi x3), none] []
    unfold jC_nextInLane_L4 at hJ
    have hj47 : ∀ (x2 x3 s0 : Int), jC_nextInLane_J47 b a1 K4 Φ x2 x3 s0 M → zG X M 47 [some (zr b), some (zi a1), some (zi x2), some (zi x3), none] [zi s0] := by
      intro x2 x3 s0 hJ
      unfold jC_nextInLane_J47 at hJ
      refine zq_istore (lv' := [some (zr b), some (zi a1), some (zi x2), some (zi x3), some (zi s0)]) C dX0_nextInLane_47 (Nat.le_of_ble_eq_true rfl) rfl ?_
      refine zq_iload C dX0_nextInLane_49 rfl ?_
      refine zq_if_eq (tgt := 75) C dX0_nextInLane_51 rfl (fun h13 => ?_) (fun h13 => ?_)
      · have hJ := hJ.1 h13
        obtain ⟨hv3_5, hJ⟩ := hJ
        refine zq_iinc (y := x3 + 1) (lv' := [some (zr b), some (zi a1), some (zi x2), some (zi (x3 + 1)), some (zi s0)]) C dX0_nextInLane_75 rfl rfl hv3_5 rfl ?_
        obtain ⟨v3_5, ev3_5⟩ : ∃ z, z = x3 + 1 := ⟨_, rfl⟩
        rw [← ev3_5]
        have hJ := hJ v3_5 ev3_5
        refine zq_goto (tgt := 4) C dX0_nextInLane_78 rfl ?_
        refine zq_weak [some (zr b), some (zi a1), some (zi x2), some (zi v3_5), none] ⟨Or.inr rfl, Or.inr rfl, Or.inr rfl, Or.inr rfl, Or.inl rfl, trivial⟩ ?_
        exact hK4 _ hJ
      · have hJ := hJ.2 h13
        refine zq_iload_n (i := 2) C dX0_nextInLane_54 rfl rfl ?_
        refine zq_if_lt (tgt := 73) C dX0_nextInLane_55 rfl (fun h12 => ?_) (fun h12 => ?_)
        · have hJ := hJ.1 h12
          refine zq_iload_n (i := 3) C dX0_nextInLane_73 rfl rfl ?_
          refine zq_istore_n (i := 2) (lv' := [some (zr b), some (zi a1), some (zi x3), some (zi x3), some (zi s0)]) C dX0_nextInLane_74 rfl (Nat.le_of_ble_eq_true rfl) rfl ?_
          obtain ⟨hv3_6, hJ⟩ := hJ
          refine zq_iinc (y := x3 + 1) (lv' := [some (zr b), some (zi a1), some (zi x3), some (zi (x3 + 1)), some (zi s0)]) C dX0_nextInLane_75 rfl rfl hv3_6 rfl ?_
          obtain ⟨v3_6, ev3_6⟩ : ∃ z, z = x3 + 1 := ⟨_, rfl⟩
          rw [← ev3_6]
          have hJ := hJ v3_6 ev3_6
          refine zq_goto (tgt := 4) C dX0_nextInLane_78 rfl ?_
          refine zq_weak [some (zr b), some (zi a1), some (zi x3), some (zi v3_6), none] ⟨Or.inr rfl, Or.inr rfl, Or.inr rfl, Or.inr rfl, Or.inl rfl, trivial⟩ ?_
          exact hK4 _ hJ
        · have hJ := hJ.2 h12
          refine zq_aload_n (i := 0) C dX0_nextInLane_58 rfl rfl ?_
          refine zq_getr C fk_X0_18 (zs0 hb) rfl dX0_nextInLane_59 ?_
          refine zq_iload_n (i := 3) C dX0_nextInLane_62 rfl rfl ?_
          obtain ⟨h7, h7', hJ⟩ := hJ
          refine zq_iald C (zs3 hb) h7 h7' dX0_nextInLane_63 ?_
          refine zq_aload_n (i := 0) C dX0_nextInLane_64 rfl rfl ?_
          refine zq_getr C fk_X0_18 (zs0 hb) rfl dX0_nextInLane_65 ?_
          refine zq_iload_n (i := 2) C dX0_nextInLane_68 rfl rfl ?_
          obtain ⟨h8, h8', hJ⟩ := hJ
          refine zq_iald C (zs3 hb) h8 h8' dX0_nextInLane_69 ?_
          refine zq_icmp_ge (tgt := 75) C dX0_nextInLane_70 rfl (fun h11 => ?_) (fun h11 => ?_)
          · have hJ := hJ.1 h11
            obtain ⟨hv3_9, hJ⟩ := hJ
            refine zq_iinc (y := x3 + 1) (lv' := [some (zr b), some (zi a1), some (zi x2), some (zi (x3 + 1)), some (zi s0)]) C dX0_nextInLane_75 rfl rfl hv3_9 rfl ?_
            obtain ⟨v3_9, ev3_9⟩ : ∃ z, z = x3 + 1 := ⟨_, rfl⟩
            rw [← ev3_9]
            have hJ := hJ v3_9 ev3_9
            refine zq_goto (tgt := 4) C dX0_nextInLane_78 rfl ?_
            refine zq_weak [some (zr b), some (zi a1), some (zi x2), some (zi v3_9), none] ⟨Or.inr rfl, Or.inr rfl, Or.inr rfl, Or.inr rfl, Or.inl rfl, trivial⟩ ?_
            exact hK4 _ hJ
          · have hJ := hJ.2 h11
            refine zq_iload_n (i := 3) C dX0_nextInLane_73 rfl rfl ?_
            refine zq_istore_n (i := 2) (lv' := [some (zr b), some (zi a1), some (zi x3), some (zi x3), some (zi s0)]) C dX0_nextInLane_74 rfl (Nat.le_of_ble_eq_true rfl) rfl ?_
            obtain ⟨hv3_10, hJ⟩ := hJ
            refine zq_iinc (y := x3 + 1) (lv' := [some (zr b), some (zi a1), some (zi x3), some (zi (x3 + 1)), some (zi s0)]) C dX0_nextInLane_75 rfl rfl hv3_10 rfl ?_
            obtain ⟨v3_10, ev3_10⟩ : ∃ z, z = x3 + 1 := ⟨_, rfl⟩
            rw [← ev3_10]
            have hJ := hJ v3_10 ev3_10
            refine zq_goto (tgt := 4) C dX0_nextInLane_78 rfl ?_
            refine zq_weak [some (zr b), some (zi a1), some (zi x3), some (zi v3_10), none] ⟨Or.inr rfl, Or.inr rfl, Or.inr rfl, Or.inr rfl, Or.inl rfl, trivial⟩ ?_
            exact hK4 _ hJ
    have hj46 : ∀ (x2 x3 : Int), jC_nextInLane_J46 b a1 K4 Φ x2 x3 M → zG X M 46 [some (zr b), some (zi a1), some (zi x2), some (zi x3), none] [] := by
      intro x2 x3 hJ
      unfold jC_nextInLane_J46 at hJ
      refine zq_iconst (x := 0) C dX0_nextInLane_46 rfl ik_0 ?_
      exact hj47 _ _ _ hJ
    refine zq_iload_n (i := 3) C dX0_nextInLane_4 rfl rfl ?_
    refine zq_aload_n (i := 0) C dX0_nextInLane_5 rfl rfl ?_
    refine zq_get (kz := 0) C fk_X0_45 (zs0 hb) rfl dX0_nextInLane_6 rfl ?_
    refine zq_icmp_ge (tgt := 81) C dX0_nextInLane_9 rfl (fun h18 => ?_) (fun h18 => ?_)
    · have hJ := hJ.1 h18
      refine zq_iload_n (i := 2) C dX0_nextInLane_81 rfl rfl ?_
      refine zq_if_ge (tgt := 90) C dX0_nextInLane_82 rfl (fun h2 => ?_) (fun h2 => ?_)
      · have hJ := hJ.1 h2
        refine zq_aload_n (i := 0) C dX0_nextInLane_90 rfl rfl ?_
        refine zq_getr C fk_X0_9 (zs0 hb) rfl dX0_nextInLane_91 ?_
        refine zq_iload_n (i := 2) C dX0_nextInLane_94 rfl rfl ?_
        obtain ⟨h1, h1', hJ⟩ := hJ
        refine zq_iald C (zs1 hb) h1 h1' dX0_nextInLane_95 ?_
        exact zq_iret C rfl ⟨_, rfl, rfl, hJ⟩ dX0_nextInLane_96
      · have hJ := hJ.2 h2
        refine zq_bipush (x := (-5)) C dX0_nextInLane_85 bi_m5 ik_m5 ?_
        refine zq_goto (tgt := 96) C dX0_nextInLane_87 rfl ?_
        exact zq_iret C rfl ⟨_, rfl, rfl, hJ⟩ dX0_nextInLane_96
    · have hJ := hJ.2 h18
      refine zq_aload_n (i := 0) C dX0_nextInLane_12 rfl rfl ?_
      refine zq_getr C fk_X0_15 (zs0 hb) rfl dX0_nextInLane_13 ?_
      refine zq_iload_n (i := 3) C dX0_nextInLane_16 rfl rfl ?_
      obtain ⟨h3, h3', hJ⟩ := hJ
      refine zq_iald C (zs2 hb) h3 h3' dX0_nextInLane_17 ?_
      refine zq_aload_n (i := 0) C dX0_nextInLane_18 rfl rfl ?_
      refine zq_getr C fk_X0_15 (zs0 hb) rfl dX0_nextInLane_19 ?_
      refine zq_iload_n (i := 1) C dX0_nextInLane_22 rfl rfl ?_
      obtain ⟨h4, h4', hJ⟩ := hJ
      refine zq_iald C (zs2 hb) h4 h4' dX0_nextInLane_23 ?_
      refine zq_icmp_ne (tgt := 46) C dX0_nextInLane_24 rfl (fun h17 => ?_) (fun h17 => ?_)
      · have hJ := hJ.1 h17
        exact hj46 _ _ hJ
      · have hJ := hJ.2 h17
        refine zq_aload_n (i := 0) C dX0_nextInLane_27 rfl rfl ?_
        refine zq_getr C fk_X0_18 (zs0 hb) rfl dX0_nextInLane_28 ?_
        refine zq_iload_n (i := 3) C dX0_nextInLane_31 rfl rfl ?_
        obtain ⟨h14, h14', hJ⟩ := hJ
        refine zq_iald C (zs3 hb) h14 h14' dX0_nextInLane_32 ?_
        refine zq_aload_n (i := 0) C dX0_nextInLane_33 rfl rfl ?_
        refine zq_getr C fk_X0_18 (zs0 hb) rfl dX0_nextInLane_34 ?_
        refine zq_iload_n (i := 1) C dX0_nextInLane_37 rfl rfl ?_
        obtain ⟨h15, h15', hJ⟩ := hJ
        refine zq_iald C (zs3 hb) h15 h15' dX0_nextInLane_38 ?_
        refine zq_icmp_le (tgt := 46) C dX0_nextInLane_39 rfl (fun h16 => ?_) (fun h16 => ?_)
        · have hJ := hJ.1 h16
          exact hj46 _ _ hJ
        · have hJ := hJ.2 h16
          refine zq_iconst (x := 1) C dX0_nextInLane_42 rfl ik_1 ?_
          refine zq_goto (tgt := 47) C dX0_nextInLane_43 rfl ?_
          exact hj47 _ _ _ hJ
  refine zq_iconst (x := (-1)) C dX0_nextInLane_0 rfl ik_m1 ?_
  refine zq_istore_n (i := 2) (lv' := [some (zr b), some (zi a1), some (zi (-1)), none, none]) C dX0_nextInLane_1 rfl (Nat.le_of_ble_eq_true rfl) rfl ?_
  refine zq_iconst (x := 0) C dX0_nextInLane_2 rfl ik_0 ?_
  refine zq_istore_n (i := 3) (lv' := [some (zr b), some (zi a1), some (zi (-1)), some (zi 0), none]) C dX0_nextInLane_3 rfl (Nat.le_of_ble_eq_true rfl) rfl ?_
  exact hl4 _ hJ
set_option maxRecDepth 100000 in
set_option maxHeartbeats 4000000 in
theorem wB_barOf (l : Launch) (a1 a2 : Int) (M : zM) {Φ : Int → zM → Prop} (hJ : jB_barOf a1 a2 M Φ) : zMet l yX7_barOf cX7_barOf 4 (some .int) 4 91 shX [zr 70, zi a1, zi a2] M (zI Φ) := by
  refine zq_enter [some (zr 70), some (zi a1), some (zi a2), none] (by decide) rfl (Nat.le_of_ble_eq_true rfl) rfl (fun X C => ?_)
  unfold jB_barOf at hJ
  refine zq_aload_n (i := 0) C dX7_barOf_0 rfl rfl ?_
  refine zq_getr C fk_X7_10 sx70 rfl dX7_barOf_1 ?_
  refine zq_iload_n (i := 1) C dX7_barOf_4 rfl rfl ?_
  refine zq_callVi C [zi a1] (wC_slotOf l zch0 _ _  hJ) ck_X7_91 iv_X0_slotOf rfl sx0 rfl rfl rfl rfl rfl rfl dX7_barOf_5 (fun r1 N2 hN2 => ?_)
  obtain ⟨rfl, hJ⟩ := hN2
  refine zq_istore_n (i := 3) (lv' := [some (zr 70), some (zi a1), some (zi a2), some (zi r1)]) C dX7_barOf_8 rfl (Nat.le_of_ble_eq_true rfl) rfl ?_
  refine zq_iload_n (i := 3) C dX7_barOf_9 rfl rfl ?_
  refine zq_if_ge (tgt := 15) C dX7_barOf_10 rfl (fun h39 => ?_) (fun h39 => ?_)
  · have hJ := hJ.1 h39
    refine zq_iload_n (i := 2) C dX7_barOf_15 rfl rfl ?_
    by_cases g0 : a2 = 0
    · have hJ := hJ.1 g0
      refine zq_tabIn (tgt := 80) C dX7_barOf_16 (by rw [g0]; decide) (by rw [g0]; decide) (by rw [g0]; rfl) rfl ?_
      refine zq_aload_n (i := 0) C dX7_barOf_80 rfl rfl ?_
      refine zq_getr C fk_X7_10 sx70 rfl dX7_barOf_81 ?_
      refine zq_getr C fk_X7_121 sx0 rfl dX7_barOf_84 ?_
      refine zq_iload_n (i := 3) C dX7_barOf_87 rfl rfl ?_
      obtain ⟨h3, h3', hJ⟩ := hJ
      refine zq_iald C sx2 h3 h3' dX7_barOf_88 ?_
      exact zq_iret C rfl ⟨_, rfl, hJ⟩ dX7_barOf_89
    have hJ := hJ.2 g0
    by_cases g1 : a2 = 1
    · have hJ := hJ.1 g1
      refine zq_tabIn (tgt := 90) C dX7_barOf_16 (by rw [g1]; decide) (by rw [g1]; decide) (by rw [g1]; rfl) rfl ?_
      refine zq_aload_n (i := 0) C dX7_barOf_90 rfl rfl ?_
      refine zq_getr C fk_X7_10 sx70 rfl dX7_barOf_91 ?_
      refine zq_getr C fk_X7_124 sx0 rfl dX7_barOf_94 ?_
      refine zq_iload_n (i := 3) C dX7_barOf_97 rfl rfl ?_
      obtain ⟨h4, h4', hJ⟩ := hJ
      refine zq_iald C sx3 h4 h4' dX7_barOf_98 ?_
      exact zq_iret C rfl ⟨_, rfl, hJ⟩ dX7_barOf_99
    have hJ := hJ.2 g1
    by_cases g2 : a2 = 2
    · have hJ := hJ.1 g2
      refine zq_tabIn (tgt := 100) C dX7_barOf_16 (by rw [g2]; decide) (by rw [g2]; decide) (by rw [g2]; rfl) rfl ?_
      refine zq_aload_n (i := 0) C dX7_barOf_100 rfl rfl ?_
      refine zq_getr C fk_X7_10 sx70 rfl dX7_barOf_101 ?_
      refine zq_getr C fk_X7_118 sx0 rfl dX7_barOf_104 ?_
      refine zq_iload_n (i := 3) C dX7_barOf_107 rfl rfl ?_
      obtain ⟨h5, h5', hJ⟩ := hJ
      refine zq_iald C sx4 h5 h5' dX7_barOf_108 ?_
      exact zq_iret C rfl ⟨_, rfl, hJ⟩ dX7_barOf_109
    have hJ := hJ.2 g2
    by_cases g3 : a2 = 3
    · have hJ := hJ.1 g3
      refine zq_tabIn (tgt := 110) C dX7_barOf_16 (by rw [g3]; decide) (by rw [g3]; decide) (by rw [g3]; rfl) rfl ?_
      refine zq_aload_n (i := 0) C dX7_barOf_110 rfl rfl ?_
      refine zq_getr C fk_X7_10 sx70 rfl dX7_barOf_111 ?_
      refine zq_iload_n (i := 3) C dX7_barOf_114 rfl rfl ?_
      refine zq_callVi C [zi r1] (wC_endOf l zch0 _ _  hJ) ck_X7_199 iv_X0_endOf rfl sx0 rfl rfl rfl rfl rfl rfl dX7_barOf_115 (fun r6 N7 hN7 => ?_)
      obtain ⟨rfl, hJ⟩ := hN7
      exact zq_iret C rfl ⟨_, rfl, hJ⟩ dX7_barOf_118
    have hJ := hJ.2 g3
    by_cases g4 : a2 = 4
    · have hJ := hJ.1 g4
      refine zq_tabIn (tgt := 119) C dX7_barOf_16 (by rw [g4]; decide) (by rw [g4]; decide) (by rw [g4]; rfl) rfl ?_
      refine zq_aload_n (i := 0) C dX7_barOf_119 rfl rfl ?_
      refine zq_getr C fk_X7_10 sx70 rfl dX7_barOf_120 ?_
      refine zq_aload_n (i := 0) C dX7_barOf_123 rfl rfl ?_
      refine zq_getr C fk_X7_10 sx70 rfl dX7_barOf_124 ?_
      refine zq_getr C fk_X7_124 sx0 rfl dX7_barOf_127 ?_
      refine zq_iload_n (i := 3) C dX7_barOf_130 rfl rfl ?_
      obtain ⟨h8, h8', hJ⟩ := hJ
      refine zq_iald C sx3 h8 h8' dX7_barOf_131 ?_
      refine zq_callVi C [zi (M 3 r1)] (wC_place l zch0 _ _  hJ) ck_X7_202 iv_X0_place rfl sx0 rfl rfl rfl rfl rfl rfl dX7_barOf_132 (fun r9 N10 hN10 => ?_)
      obtain ⟨rfl, hJ⟩ := hN10
      exact zq_iret C rfl ⟨_, rfl, hJ⟩ dX7_barOf_135
    have hJ := hJ.2 g4
    by_cases g5 : a2 = 5
    · have hJ := hJ.1 g5
      refine zq_tabIn (tgt := 136) C dX7_barOf_16 (by rw [g5]; decide) (by rw [g5]; decide) (by rw [g5]; rfl) rfl ?_
      refine zq_aload_n (i := 0) C dX7_barOf_136 rfl rfl ?_
      refine zq_getr C fk_X7_10 sx70 rfl dX7_barOf_137 ?_
      refine zq_aload_n (i := 0) C dX7_barOf_140 rfl rfl ?_
      refine zq_getr C fk_X7_10 sx70 rfl dX7_barOf_141 ?_
      refine zq_getr C fk_X7_124 sx0 rfl dX7_barOf_144 ?_
      refine zq_iload_n (i := 3) C dX7_barOf_147 rfl rfl ?_
      obtain ⟨h11, h11', hJ⟩ := hJ
      refine zq_iald C sx3 h11 h11' dX7_barOf_148 ?_
      refine zq_aload_n (i := 0) C dX7_barOf_149 rfl rfl ?_
      refine zq_getr C fk_X7_10 sx70 rfl dX7_barOf_150 ?_
      refine zq_iload_n (i := 3) C dX7_barOf_153 rfl rfl ?_
      refine zq_callVi C [zi r1] (wC_endOf l zch0 _ _  hJ) ck_X7_199 iv_X0_endOf rfl sx0 rfl rfl rfl rfl rfl rfl dX7_barOf_154 (fun r12 N13 hN13 => ?_)
      obtain ⟨rfl, hJ⟩ := hN13
      refine zq_callVi C [zi (M 3 r1), zi r12] (wC_widthBetween l zch0 _ _ _  hJ) ck_X7_205 iv_X0_widthBetween rfl sx0 rfl rfl rfl rfl rfl rfl dX7_barOf_157 (fun r14 N15 hN15 => ?_)
      obtain ⟨rfl, hJ⟩ := hN15
      exact zq_iret C rfl ⟨_, rfl, hJ⟩ dX7_barOf_160
    have hJ := hJ.2 g5
    by_cases g6 : a2 = 6
    · have hJ := hJ.1 g6
      refine zq_tabIn (tgt := 161) C dX7_barOf_16 (by rw [g6]; decide) (by rw [g6]; decide) (by rw [g6]; rfl) rfl ?_
      refine zq_aload_n (i := 0) C dX7_barOf_161 rfl rfl ?_
      refine zq_iload_n (i := 3) C dX7_barOf_162 rfl rfl ?_
      refine zq_callVi C [zi r1] (wB_latestOf l _ _  hJ) ck_X7_208 iv_X7_latestOf rfl sx70 rfl rfl rfl rfl rfl rfl dX7_barOf_163 (fun r16 M17 hJ => ?_)
      refine zq_aload_n (i := 0) C dX7_barOf_166 rfl rfl ?_
      refine zq_getr C fk_X7_10 sx70 rfl dX7_barOf_167 ?_
      refine zq_getr C fk_X7_124 sx0 rfl dX7_barOf_170 ?_
      refine zq_iload_n (i := 3) C dX7_barOf_173 rfl rfl ?_
      obtain ⟨h18, h18', hJ⟩ := hJ
      refine zq_iald C sx3 h18 h18' dX7_barOf_174 ?_
      obtain ⟨h19, hJ⟩ := hJ
      refine zq_isub C dX7_barOf_175 h19 ?_
      exact zq_iret C rfl ⟨_, rfl, hJ⟩ dX7_barOf_176
    have hJ := hJ.2 g6
    by_cases g7 : a2 = 7
    · have hJ := hJ.1 g7
      refine zq_tabIn (tgt := 177) C dX7_barOf_16 (by rw [g7]; decide) (by rw [g7]; decide) (by rw [g7]; rfl) rfl ?_
      refine zq_aload_n (i := 0) C dX7_barOf_177 rfl rfl ?_
      refine zq_getr C fk_X7_10 sx70 rfl dX7_barOf_178 ?_
      refine zq_iload_n (i := 3) C dX7_barOf_181 rfl rfl ?_
      refine zq_callVi C [zi r1] (wC_arrowsFrom l zch0 _ _  hJ) ck_X7_211 iv_X0_arrowsFrom rfl sx0 rfl rfl rfl rfl rfl rfl dX7_barOf_182 (fun r20 N21 hN21 => ?_)
      obtain ⟨rfl, hJ⟩ := hN21
      exact zq_iret C rfl ⟨_, rfl, hJ⟩ dX7_barOf_185
    have hJ := hJ.2 g7
    by_cases g8 : a2 = 8
    · have hJ := hJ.1 g8
      refine zq_tabIn (tgt := 186) C dX7_barOf_16 (by rw [g8]; decide) (by rw [g8]; decide) (by rw [g8]; rfl) rfl ?_
      refine zq_aload_n (i := 0) C dX7_barOf_186 rfl rfl ?_
      refine zq_getr C fk_X7_10 sx70 rfl dX7_barOf_187 ?_
      refine zq_iload_n (i := 3) C dX7_barOf_190 rfl rfl ?_
      refine zq_callVi C [zi r1] (wC_arrowsTo l zch0 _ _  hJ) ck_X7_214 iv_X0_arrowsTo rfl sx0 rfl rfl rfl rfl rfl rfl dX7_barOf_191 (fun r22 N23 hN23 => ?_)
      obtain ⟨rfl, hJ⟩ := hN23
      exact zq_iret C rfl ⟨_, rfl, hJ⟩ dX7_barOf_194
    have hJ := hJ.2 g8
    by_cases g9 : a2 = 9
    · have hJ := hJ.1 g9
      refine zq_tabIn (tgt := 195) C dX7_barOf_16 (by rw [g9]; decide) (by rw [g9]; decide) (by rw [g9]; rfl) rfl ?_
      refine zq_aload_n (i := 0) C dX7_barOf_195 rfl rfl ?_
      refine zq_aload_n (i := 0) C dX7_barOf_196 rfl rfl ?_
      refine zq_getr C fk_X7_10 sx70 rfl dX7_barOf_197 ?_
      refine zq_getr C fk_X7_124 sx0 rfl dX7_barOf_200 ?_
      refine zq_iload_n (i := 3) C dX7_barOf_203 rfl rfl ?_
      obtain ⟨h24, h24', hJ⟩ := hJ
      refine zq_iald C sx3 h24 h24' dX7_barOf_204 ?_
      refine zq_callVi C [zi (M 3 r1)] (wB_stripOf l _ _  hJ) ck_X7_217 iv_X7_stripOf rfl sx70 rfl rfl rfl rfl rfl rfl dX7_barOf_205 (fun r25 M26 hJ => ?_)
      exact zq_iret C rfl ⟨_, rfl, hJ⟩ dX7_barOf_208
    have hJ := hJ.2 g9
    by_cases g10 : a2 = 10
    · have hJ := hJ.1 g10
      refine zq_tabIn (tgt := 209) C dX7_barOf_16 (by rw [g10]; decide) (by rw [g10]; decide) (by rw [g10]; rfl) rfl ?_
      refine zq_aload_n (i := 0) C dX7_barOf_209 rfl rfl ?_
      refine zq_aload_n (i := 0) C dX7_barOf_210 rfl rfl ?_
      refine zq_getr C fk_X7_10 sx70 rfl dX7_barOf_211 ?_
      refine zq_iload_n (i := 3) C dX7_barOf_214 rfl rfl ?_
      refine zq_callVi C [zi r1] (wC_endOf l zch0 _ _  hJ) ck_X7_199 iv_X0_endOf rfl sx0 rfl rfl rfl rfl rfl rfl dX7_barOf_215 (fun r27 N28 hN28 => ?_)
      obtain ⟨rfl, hJ⟩ := hN28
      refine zq_iconst (x := 1) C dX7_barOf_218 rfl ik_1 ?_
      obtain ⟨h29, hJ⟩ := hJ
      refine zq_isub C dX7_barOf_219 h29 ?_
      refine zq_callVi C [zi (r27 - 1)] (wB_stripOf l _ _  hJ) ck_X7_217 iv_X7_stripOf rfl sx70 rfl rfl rfl rfl rfl rfl dX7_barOf_220 (fun r30 M31 hJ => ?_)
      refine zq_aload_n (i := 0) C dX7_barOf_223 rfl rfl ?_
      refine zq_aload_n (i := 0) C dX7_barOf_224 rfl rfl ?_
      refine zq_getr C fk_X7_10 sx70 rfl dX7_barOf_225 ?_
      refine zq_getr C fk_X7_124 sx0 rfl dX7_barOf_228 ?_
      refine zq_iload_n (i := 3) C dX7_barOf_231 rfl rfl ?_
      obtain ⟨h32, h32', hJ⟩ := hJ
      refine zq_iald C sx3 h32 h32' dX7_barOf_232 ?_
      refine zq_callVi C [zi (M31 3 r1)] (wB_stripOf l _ _  hJ) ck_X7_217 iv_X7_stripOf rfl sx70 rfl rfl rfl rfl rfl rfl dX7_barOf_233 (fun r33 M34 hJ => ?_)
      obtain ⟨h35, hJ⟩ := hJ
      refine zq_isub C dX7_barOf_236 h35 ?_
      refine zq_iconst (x := 1) C dX7_barOf_237 rfl ik_1 ?_
      obtain ⟨h36, hJ⟩ := hJ
      refine zq_iadd C dX7_barOf_238 h36 ?_
      exact zq_iret C rfl ⟨_, rfl, hJ⟩ dX7_barOf_239
    have hJ := hJ.2 g10
    by_cases g11 : a2 = 11
    · have hJ := hJ.1 g11
      refine zq_tabIn (tgt := 240) C dX7_barOf_16 (by rw [g11]; decide) (by rw [g11]; decide) (by rw [g11]; rfl) rfl ?_
      refine zq_aload_n (i := 0) C dX7_barOf_240 rfl rfl ?_
      refine zq_getr C fk_X7_10 sx70 rfl dX7_barOf_241 ?_
      refine zq_iload_n (i := 3) C dX7_barOf_244 rfl rfl ?_
      refine zq_callVi C [zi r1] (wC_nextInLane l zch0 _ _  hJ) ck_X7_220 iv_X0_nextInLane rfl sx0 rfl rfl rfl rfl rfl rfl dX7_barOf_245 (fun r37 N38 hN38 => ?_)
      obtain ⟨rfl, hJ⟩ := hN38
      exact zq_iret C rfl ⟨_, rfl, hJ⟩ dX7_barOf_248
    have hJ := hJ.2 g11
    refine zq_tabOut (tgt := 249) C dX7_barOf_16 (zto12 g0 g1 g2 g3 g4 g5 g6 g7 g8 g9 g10 g11) rfl ?_
    refine zq_bipush (x := (-2)) C dX7_barOf_249 bi_m2 ik_m2 ?_
    exact zq_iret C rfl ⟨_, rfl, hJ⟩ dX7_barOf_251
  · have hJ := hJ.2 h39
    refine zq_iconst (x := (-1)) C dX7_barOf_13 rfl ik_m1 ?_
    exact zq_iret C rfl ⟨_, rfl, hJ⟩ dX7_barOf_14
set_option maxRecDepth 100000 in
set_option maxHeartbeats 4000000 in
theorem wD_freeBends (l : Launch) {c1 : Nat} (hc1 : zCh c1) (a2 : Int) (M : zM) {Φ : Int → Prop} (hJ : jD_freeBends c1 a2 M Φ) : zMet l yX2_freeBends cX2_freeBends 7 (some .int) 2 46 shX [zr 82, zr c1, zi a2] M (zI (fun z M' => M = M' ∧ Φ z)) := by
  refine zq_enter [some (zr 82), some (zr c1), some (zi a2), none, none, none, none] (by decide) rfl (Nat.le_of_ble_eq_true rfl) rfl (fun X C => ?_)
  unfold jD_freeBends at hJ
  have hl26 : ∀ (x4 x5 : Int) (s : Int × Int), zwh (fun K s => jD_freeBends_L26 c1 a2 K Φ x4 x5 M (s.1) (s.2)) s → zG X M 26 [some (zr 82), some (zr c1), some (zi a2), some (zi (s.1)), some (zi x4), some (zi x5), some (zi (s.2))] [] := by
    intro x4 x5
    refine zwh_sound ?_
    intro K26 s hK26 hJ
    obtain ⟨x3, x6⟩ := s
    have hJ : jD_freeBends_L26 c1 a2 K26 Φ x4 x5 M x3 x6 := hJ
    show zG X M 26 [some (zr 82), some (zr c1), some (zi a2), some (zi x3), some (zi x4), some (zi x5), some (zi x6)] []
    unfold jD_freeBends_L26 at hJ
    refine zq_iload C dX2_freeBends_26 rfl ?_
    refine zq_iload C dX2_freeBends_28 rfl ?_
    refine zq_icmp_gt (tgt := 60) C dX2_freeBends_30 rfl (fun h15 => ?_) (fun h15 => ?_)
    · have hJ := hJ.1 h15
      refine zq_iload_n (i := 3) C dX2_freeBends_60 rfl rfl ?_
      exact zq_iret C rfl ⟨_, rfl, rfl, hJ⟩ dX2_freeBends_61
    · have hJ := hJ.2 h15
      refine zq_iload_n (i := 3) C dX2_freeBends_33 rfl rfl ?_
      refine zq_aload_n (i := 0) C dX2_freeBends_34 rfl rfl ?_
      refine zq_getr C fk_X2_15 sx82 rfl dX2_freeBends_35 ?_
      refine zq_iload C dX2_freeBends_38 rfl ?_
      obtain ⟨h7, h7', hJ⟩ := hJ
      refine zq_iald C sx84 h7 h7' dX2_freeBends_40 ?_
      refine zq_iload C dX2_freeBends_41 rfl ?_
      refine zq_iand C dX2_freeBends_43 ?_
      refine zq_if_ne (tgt := 51) C dX2_freeBends_44 rfl (fun h14 => ?_) (fun h14 => ?_)
      · have hJ := hJ.1 h14
        refine zq_iconst (x := 0) C dX2_freeBends_51 rfl ik_0 ?_
        obtain ⟨h8, hJ⟩ := hJ
        refine zq_iadd C dX2_freeBends_52 h8 ?_
        refine zq_istoreN_n (i := 3) C (fun v => [some (zr 82), some (zr c1), some (zi a2), some (zi v), some (zi x4), some (zi x5), some (zi x6)]) dX2_freeBends_53 rfl (Nat.le_of_ble_eq_true rfl) (fun _ => rfl) (fun v3_9 hv3_9 => ?_)
        have hJ := hJ v3_9 hv3_9
        obtain ⟨hv6_10, hJ⟩ := hJ
        refine zq_iinc (y := x6 + 1) (lv' := [some (zr 82), some (zr c1), some (zi a2), some (zi v3_9), some (zi x4), some (zi x5), some (zi (x6 + 1))]) C dX2_freeBends_54 rfl rfl hv6_10 rfl ?_
        obtain ⟨v6_10, ev6_10⟩ : ∃ z, z = x6 + 1 := ⟨_, rfl⟩
        rw [← ev6_10]
        have hJ := hJ v6_10 ev6_10
        refine zq_goto (tgt := 26) C dX2_freeBends_57 rfl ?_
        exact hK26 _ hJ
      · have hJ := hJ.2 h14
        refine zq_iconst (x := 1) C dX2_freeBends_47 rfl ik_1 ?_
        refine zq_goto (tgt := 52) C dX2_freeBends_48 rfl ?_
        obtain ⟨h11, hJ⟩ := hJ
        refine zq_iadd C dX2_freeBends_52 h11 ?_
        refine zq_istoreN_n (i := 3) C (fun v => [some (zr 82), some (zr c1), some (zi a2), some (zi v), some (zi x4), some (zi x5), some (zi x6)]) dX2_freeBends_53 rfl (Nat.le_of_ble_eq_true rfl) (fun _ => rfl) (fun v3_12 hv3_12 => ?_)
        have hJ := hJ v3_12 hv3_12
        obtain ⟨hv6_13, hJ⟩ := hJ
        refine zq_iinc (y := x6 + 1) (lv' := [some (zr 82), some (zr c1), some (zi a2), some (zi v3_12), some (zi x4), some (zi x5), some (zi (x6 + 1))]) C dX2_freeBends_54 rfl rfl hv6_13 rfl ?_
        obtain ⟨v6_13, ev6_13⟩ : ∃ z, z = x6 + 1 := ⟨_, rfl⟩
        rw [← ev6_13]
        have hJ := hJ v6_13 ev6_13
        refine zq_goto (tgt := 26) C dX2_freeBends_57 rfl ?_
        exact hK26 _ hJ
  refine zq_iconst (x := 0) C dX2_freeBends_0 rfl ik_0 ?_
  refine zq_istore_n (i := 3) (lv' := [some (zr 82), some (zr c1), some (zi a2), some (zi 0), none, none, none]) C dX2_freeBends_1 rfl (Nat.le_of_ble_eq_true rfl) rfl ?_
  refine zq_aload_n (i := 0) C dX2_freeBends_2 rfl rfl ?_
  refine zq_aload_n (i := 1) C dX2_freeBends_3 rfl rfl ?_
  refine zq_iload_n (i := 2) C dX2_freeBends_4 rfl rfl ?_
  refine zq_callVi C [zr c1, zi a2] (wD_lanesBetween l hc1 _ _  hJ) ck_X2_69 iv_X2_lanesBetween rfl sx82 rfl rfl rfl rfl rfl rfl dX2_freeBends_5 (fun r1 N2 hN2 => ?_)
  obtain ⟨rfl, hJ⟩ := hN2
  refine zq_istore (lv' := [some (zr 82), some (zr c1), some (zi a2), some (zi 0), some (zi r1), none, none]) C dX2_freeBends_8 (Nat.le_of_ble_eq_true rfl) rfl ?_
  refine zq_aload_n (i := 0) C dX2_freeBends_10 rfl rfl ?_
  refine zq_aload_n (i := 1) C dX2_freeBends_11 rfl rfl ?_
  refine zq_iload_n (i := 2) C dX2_freeBends_12 rfl rfl ?_
  refine zq_callVi C [zr c1, zi a2] (wD_highest l hc1 _ _  hJ) ck_X2_72 iv_X2_highest rfl sx82 rfl rfl rfl rfl rfl rfl dX2_freeBends_13 (fun r3 N4 hN4 => ?_)
  obtain ⟨rfl, hJ⟩ := hN4
  refine zq_istore (lv' := [some (zr 82), some (zr c1), some (zi a2), some (zi 0), some (zi r1), some (zi r3), none]) C dX2_freeBends_16 (Nat.le_of_ble_eq_true rfl) rfl ?_
  refine zq_aload_n (i := 0) C dX2_freeBends_18 rfl rfl ?_
  refine zq_aload_n (i := 1) C dX2_freeBends_19 rfl rfl ?_
  refine zq_iload_n (i := 2) C dX2_freeBends_20 rfl rfl ?_
  refine zq_callVi C [zr c1, zi a2] (wD_lowest l hc1 _ _  hJ) ck_X2_75 iv_X2_lowest rfl sx82 rfl rfl rfl rfl rfl rfl dX2_freeBends_21 (fun r5 N6 hN6 => ?_)
  obtain ⟨rfl, hJ⟩ := hN6
  refine zq_istore (lv' := [some (zr 82), some (zr c1), some (zi a2), some (zi 0), some (zi r1), some (zi r3), some (zi r5)]) C dX2_freeBends_24 (Nat.le_of_ble_eq_true rfl) rfl ?_
  exact hl26 _ _ _ hJ
set_option maxRecDepth 100000 in
set_option maxHeartbeats 4000000 in
theorem wD_goesAlong (l : Launch) {c1 : Nat} (hc1 : zCh c1) (a2 a3 a4 : Int) (M : zM) {Φ : Int → Prop} (hJ : jD_goesAlong c1 a2 a3 a4 M Φ) : zMet l yX2_goesAlong cX2_goesAlong 7 (some .boolean) 1 21 shX [zr 82, zr c1, zi a2, zi a3, zi a4] M (zI (fun z M' => M = M' ∧ Φ z)) := by
  refine zq_enter [some (zr 82), some (zr c1), some (zi a2), some (zi a3), some (zi a4), none, none] (by decide) rfl (Nat.le_of_ble_eq_true rfl) rfl (fun X C => ?_)
  unfold jD_goesAlong at hJ
  refine zq_aload_n (i := 1) C dX2_goesAlong_0 rfl rfl ?_
  refine zq_getr C fk_X2_63 (zs0 hc1) rfl dX2_goesAlong_1 ?_
  refine zq_iload_n (i := 2) C dX2_goesAlong_4 rfl rfl ?_
  obtain ⟨h1, h1', hJ⟩ := hJ
  refine zq_iald C (zs6 hc1) h1 h1' dX2_goesAlong_5 ?_
  refine zq_istoreN C (fun v => [some (zr 82), some (zr c1), some (zi a2), some (zi a3), some (zi a4), some (zi v), none]) dX2_goesAlong_6 (Nat.le_of_ble_eq_true rfl) (fun _ => rfl) (fun v5_2 hv5_2 => ?_)
  have hJ := hJ v5_2 hv5_2
  refine zq_aload_n (i := 1) C dX2_goesAlong_8 rfl rfl ?_
  refine zq_getr C fk_X2_66 (zs0 hc1) rfl dX2_goesAlong_9 ?_
  refine zq_iload_n (i := 2) C dX2_goesAlong_12 rfl rfl ?_
  obtain ⟨h3, h3', hJ⟩ := hJ
  refine zq_iald C (zs7 hc1) h3 h3' dX2_goesAlong_13 ?_
  refine zq_istoreN C (fun v => [some (zr 82), some (zr c1), some (zi a2), some (zi a3), some (zi a4), some (zi v5_2), some (zi v)]) dX2_goesAlong_14 (Nat.le_of_ble_eq_true rfl) (fun _ => rfl) (fun v6_4 hv6_4 => ?_)
  have hJ := hJ v6_4 hv6_4
  refine zq_iload C dX2_goesAlong_16 rfl ?_
  refine zq_aload_n (i := 0) C dX2_goesAlong_18 rfl rfl ?_
  refine zq_getr C fk_X2_9 sx82 rfl dX2_goesAlong_19 ?_
  refine zq_iload_n (i := 2) C dX2_goesAlong_22 rfl rfl ?_
  obtain ⟨h5, h5', hJ⟩ := hJ
  refine zq_iald C sx83 h5 h5' dX2_goesAlong_23 ?_
  refine zq_icmp_ge (tgt := 55) C dX2_goesAlong_24 rfl (fun h15 => ?_) (fun h15 => ?_)
  · have hJ := hJ.1 h15
    refine zq_iload_n (i := 3) C dX2_goesAlong_55 rfl rfl ?_
    refine zq_aload_n (i := 1) C dX2_goesAlong_56 rfl rfl ?_
    refine zq_getr C fk_X2_43 (zs0 hc1) rfl dX2_goesAlong_57 ?_
    refine zq_iload C dX2_goesAlong_60 rfl ?_
    obtain ⟨h6, h6', hJ⟩ := hJ
    refine zq_iald C (zs2 hc1) h6 h6' dX2_goesAlong_62 ?_
    refine zq_icmp_ne (tgt := 82) C dX2_goesAlong_63 rfl (fun h9 => ?_) (fun h9 => ?_)
    · have hJ := hJ.1 h9
      refine zq_iconst (x := 0) C dX2_goesAlong_82 rfl ik_0 ?_
      exact zq_zret C rfl (Or.inl rfl) ⟨_, rfl, rfl, hJ⟩ dX2_goesAlong_83
    · have hJ := hJ.2 h9
      refine zq_iload C dX2_goesAlong_66 rfl ?_
      refine zq_aload_n (i := 1) C dX2_goesAlong_68 rfl rfl ?_
      refine zq_getr C fk_X2_40 (zs0 hc1) rfl dX2_goesAlong_69 ?_
      refine zq_iload C dX2_goesAlong_72 rfl ?_
      obtain ⟨h7, h7', hJ⟩ := hJ
      refine zq_iald C (zs3 hc1) h7 h7' dX2_goesAlong_74 ?_
      refine zq_icmp_ge (tgt := 82) C dX2_goesAlong_75 rfl (fun h8 => ?_) (fun h8 => ?_)
      · have hJ := hJ.1 h8
        refine zq_iconst (x := 0) C dX2_goesAlong_82 rfl ik_0 ?_
        exact zq_zret C rfl (Or.inl rfl) ⟨_, rfl, rfl, hJ⟩ dX2_goesAlong_83
      · have hJ := hJ.2 h8
        refine zq_iconst (x := 1) C dX2_goesAlong_78 rfl ik_1 ?_
        refine zq_goto (tgt := 83) C dX2_goesAlong_79 rfl ?_
        exact zq_zret C rfl (Or.inr rfl) ⟨_, rfl, rfl, hJ⟩ dX2_goesAlong_83
  · have hJ := hJ.2 h15
    refine zq_iload_n (i := 3) C dX2_goesAlong_27 rfl rfl ?_
    refine zq_aload_n (i := 1) C dX2_goesAlong_28 rfl rfl ?_
    refine zq_getr C fk_X2_43 (zs0 hc1) rfl dX2_goesAlong_29 ?_
    refine zq_iload C dX2_goesAlong_32 rfl ?_
    obtain ⟨h10, h10', hJ⟩ := hJ
    refine zq_iald C (zs2 hc1) h10 h10' dX2_goesAlong_34 ?_
    refine zq_icmp_ne (tgt := 53) C dX2_goesAlong_35 rfl (fun h14 => ?_) (fun h14 => ?_)
    · have hJ := hJ.1 h14
      refine zq_iconst (x := 0) C dX2_goesAlong_53 rfl ik_0 ?_
      exact zq_zret C rfl (Or.inl rfl) ⟨_, rfl, rfl, hJ⟩ dX2_goesAlong_54
    · have hJ := hJ.2 h14
      refine zq_iload C dX2_goesAlong_38 rfl ?_
      refine zq_aload_n (i := 1) C dX2_goesAlong_40 rfl rfl ?_
      refine zq_iload C dX2_goesAlong_41 rfl ?_
      refine zq_callVi C [zi v5_2] (wC_endOf l hc1 _ _  hJ) ck_X2_30 iv_X0_endOf rfl (zs0 hc1) rfl rfl rfl rfl rfl rfl dX2_goesAlong_43 (fun r11 N12 hN12 => ?_)
      obtain ⟨rfl, hJ⟩ := hN12
      refine zq_icmp_lt (tgt := 53) C dX2_goesAlong_46 rfl (fun h13 => ?_) (fun h13 => ?_)
      · have hJ := hJ.1 h13
        refine zq_iconst (x := 0) C dX2_goesAlong_53 rfl ik_0 ?_
        exact zq_zret C rfl (Or.inl rfl) ⟨_, rfl, rfl, hJ⟩ dX2_goesAlong_54
      · have hJ := hJ.2 h13
        refine zq_iconst (x := 1) C dX2_goesAlong_49 rfl ik_1 ?_
        refine zq_goto (tgt := 54) C dX2_goesAlong_50 rfl ?_
        exact zq_zret C rfl (Or.inr rfl) ⟨_, rfl, rfl, hJ⟩ dX2_goesAlong_54
set_option maxRecDepth 100000 in
set_option maxHeartbeats 4000000 in
theorem wD_passesThrough (l : Launch) {c1 : Nat} (hc1 : zCh c1) (a2 a3 a4 : Int) (M : zM) {Φ : Int → Prop} (hJ : jD_passesThrough c1 a2 a3 a4 M Φ) : zMet l yX2_passesThrough cX2_passesThrough 5 (some .boolean) 2 47 shX [zr 82, zr c1, zi a2, zi a3, zi a4] M (zI (fun z M' => M = M' ∧ Φ z)) := by
  refine zq_enter [some (zr 82), some (zr c1), some (zi a2), some (zi a3), some (zi a4)] (by decide) rfl (Nat.le_of_ble_eq_true rfl) rfl (fun X C => ?_)
  unfold jD_passesThrough at hJ
  refine zq_aload_n (i := 0) C dX2_passesThrough_0 rfl rfl ?_
  refine zq_aload_n (i := 1) C dX2_passesThrough_1 rfl rfl ?_
  refine zq_iload_n (i := 2) C dX2_passesThrough_2 rfl rfl ?_
  refine zq_callVi C [zr c1, zi a2] (wD_lanesBetween l hc1 _ _  hJ) ck_X2_69 iv_X2_lanesBetween rfl sx82 rfl rfl rfl rfl rfl rfl dX2_passesThrough_3 (fun r1 N2 hN2 => ?_)
  obtain ⟨rfl, hJ⟩ := hN2
  refine zq_iload C dX2_passesThrough_6 rfl ?_
  refine zq_ishr C dX2_passesThrough_8 ?_
  refine zq_iconst (x := 1) C dX2_passesThrough_9 rfl ik_1 ?_
  refine zq_iand C dX2_passesThrough_10 ?_
  refine zq_iconst (x := 1) C dX2_passesThrough_11 rfl ik_1 ?_
  refine zq_icmp_ne (tgt := 55) C dX2_passesThrough_12 rfl (fun h12 => ?_) (fun h12 => ?_)
  · have hJ := hJ.1 h12
    refine zq_iconst (x := 0) C dX2_passesThrough_55 rfl ik_0 ?_
    exact zq_zret C rfl (Or.inl rfl) ⟨_, rfl, rfl, hJ⟩ dX2_passesThrough_56
  · have hJ := hJ.2 h12
    refine zq_aload_n (i := 0) C dX2_passesThrough_15 rfl rfl ?_
    refine zq_aload_n (i := 1) C dX2_passesThrough_16 rfl rfl ?_
    refine zq_iload_n (i := 3) C dX2_passesThrough_17 rfl rfl ?_
    refine zq_iload C dX2_passesThrough_18 rfl ?_
    refine zq_aload_n (i := 0) C dX2_passesThrough_20 rfl rfl ?_
    refine zq_getr C fk_X2_9 sx82 rfl dX2_passesThrough_21 ?_
    refine zq_iload_n (i := 2) C dX2_passesThrough_24 rfl rfl ?_
    obtain ⟨h3, h3', hJ⟩ := hJ
    refine zq_iald C sx83 h3 h3' dX2_passesThrough_25 ?_
    refine zq_iconst (x := 1) C dX2_passesThrough_26 rfl ik_1 ?_
    obtain ⟨h4, hJ⟩ := hJ
    refine zq_isub C dX2_passesThrough_27 h4 ?_
    refine zq_callVi C [zr c1, zi a3, zi a4, zi ((M 83 a2) - 1)] (wD_goesAlong l hc1 _ _ _ _  hJ) ck_X2_92 iv_X2_goesAlong rfl sx82 rfl rfl rfl rfl rfl rfl dX2_passesThrough_28 (fun r5 N6 hN6 => ?_)
    obtain ⟨rfl, hJ⟩ := hN6
    refine zq_if_eq (tgt := 55) C dX2_passesThrough_31 rfl (fun h11 => ?_) (fun h11 => ?_)
    · have hJ := hJ.1 h11
      refine zq_iconst (x := 0) C dX2_passesThrough_55 rfl ik_0 ?_
      exact zq_zret C rfl (Or.inl rfl) ⟨_, rfl, rfl, hJ⟩ dX2_passesThrough_56
    · have hJ := hJ.2 h11
      refine zq_aload_n (i := 0) C dX2_passesThrough_34 rfl rfl ?_
      refine zq_aload_n (i := 1) C dX2_passesThrough_35 rfl rfl ?_
      refine zq_iload_n (i := 3) C dX2_passesThrough_36 rfl rfl ?_
      refine zq_iload C dX2_passesThrough_37 rfl ?_
      refine zq_aload_n (i := 0) C dX2_passesThrough_39 rfl rfl ?_
      refine zq_getr C fk_X2_9 sx82 rfl dX2_passesThrough_40 ?_
      refine zq_iload_n (i := 2) C dX2_passesThrough_43 rfl rfl ?_
      obtain ⟨h7, h7', hJ⟩ := hJ
      refine zq_iald C sx83 h7 h7' dX2_passesThrough_44 ?_
      refine zq_callVi C [zr c1, zi a3, zi a4, zi (M 83 a2)] (wD_goesAlong l hc1 _ _ _ _  hJ) ck_X2_92 iv_X2_goesAlong rfl sx82 rfl rfl rfl rfl rfl rfl dX2_passesThrough_45 (fun r8 N9 hN9 => ?_)
      obtain ⟨rfl, hJ⟩ := hN9
      refine zq_if_eq (tgt := 55) C dX2_passesThrough_48 rfl (fun h10 => ?_) (fun h10 => ?_)
      · have hJ := hJ.1 h10
        refine zq_iconst (x := 0) C dX2_passesThrough_55 rfl ik_0 ?_
        exact zq_zret C rfl (Or.inl rfl) ⟨_, rfl, rfl, hJ⟩ dX2_passesThrough_56
      · have hJ := hJ.2 h10
        refine zq_iconst (x := 1) C dX2_passesThrough_51 rfl ik_1 ?_
        refine zq_goto (tgt := 56) C dX2_passesThrough_52 rfl ?_
        exact zq_zret C rfl (Or.inr rfl) ⟨_, rfl, rfl, hJ⟩ dX2_passesThrough_56
set_option maxRecDepth 100000 in
set_option maxHeartbeats 4000000 in
theorem wD_crosses (l : Launch) {c1 : Nat} (hc1 : zCh c1) (a2 a3 : Int) (M : zM) {Φ : Int → Prop} (hJ : jD_crosses c1 a2 a3 M Φ) : zMet l yX2_crosses cX2_crosses 4 (some .boolean) 3 71 shX [zr 82, zr c1, zi a2, zi a3] M (zI (fun z M' => M = M' ∧ Φ z)) := by
  refine zq_enter [some (zr 82), some (zr c1), some (zi a2), some (zi a3)] (by decide) rfl (Nat.le_of_ble_eq_true rfl) rfl (fun X C => ?_)
  unfold jD_crosses at hJ
  have hj66 : jD_crosses_J66 c1 a2 a3 Φ M → zG X M 66 [some (zr 82), some (zr c1), some (zi a2), some (zi a3)] [] := by
    intro hJ
    unfold jD_crosses_J66 at hJ
    refine zq_iconst (x := 1) C dX2_crosses_66 rfl ik_1 ?_
    refine zq_goto (tgt := 71) C dX2_crosses_67 rfl ?_
    exact zq_zret C rfl (Or.inr rfl) ⟨_, rfl, rfl, hJ⟩ dX2_crosses_71
  refine zq_aload_n (i := 0) C dX2_crosses_0 rfl rfl ?_
  refine zq_getr C fk_X2_9 sx82 rfl dX2_crosses_1 ?_
  refine zq_iload_n (i := 2) C dX2_crosses_4 rfl rfl ?_
  obtain ⟨h1, h1', hJ⟩ := hJ
  refine zq_iald C sx83 h1 h1' dX2_crosses_5 ?_
  refine zq_bipush (x := (-5)) C dX2_crosses_6 bi_m5 ik_m5 ?_
  refine zq_icmp_eq (tgt := 22) C dX2_crosses_8 rfl (fun h14 => ?_) (fun h14 => ?_)
  · have hJ := hJ.1 h14
    refine zq_iconst (x := 0) C dX2_crosses_22 rfl ik_0 ?_
    exact zq_zret C rfl (Or.inl rfl) ⟨_, rfl, rfl, hJ⟩ dX2_crosses_23
  · have hJ := hJ.2 h14
    refine zq_aload_n (i := 0) C dX2_crosses_11 rfl rfl ?_
    refine zq_getr C fk_X2_9 sx82 rfl dX2_crosses_12 ?_
    refine zq_iload_n (i := 3) C dX2_crosses_15 rfl rfl ?_
    obtain ⟨h2, h2', hJ⟩ := hJ
    refine zq_iald C sx83 h2 h2' dX2_crosses_16 ?_
    refine zq_bipush (x := (-5)) C dX2_crosses_17 bi_m5 ik_m5 ?_
    refine zq_icmp_ne (tgt := 24) C dX2_crosses_19 rfl (fun h13 => ?_) (fun h13 => ?_)
    · have hJ := hJ.1 h13
      refine zq_aload_n (i := 0) C dX2_crosses_24 rfl rfl ?_
      refine zq_aload_n (i := 1) C dX2_crosses_25 rfl rfl ?_
      refine zq_iload_n (i := 2) C dX2_crosses_26 rfl rfl ?_
      refine zq_iload_n (i := 3) C dX2_crosses_27 rfl rfl ?_
      refine zq_aload_n (i := 1) C dX2_crosses_28 rfl rfl ?_
      refine zq_getr C fk_X2_43 (zs0 hc1) rfl dX2_crosses_29 ?_
      refine zq_aload_n (i := 1) C dX2_crosses_32 rfl rfl ?_
      refine zq_getr C fk_X2_63 (zs0 hc1) rfl dX2_crosses_33 ?_
      refine zq_iload_n (i := 3) C dX2_crosses_36 rfl rfl ?_
      obtain ⟨h3, h3', hJ⟩ := hJ
      refine zq_iald C (zs6 hc1) h3 h3' dX2_crosses_37 ?_
      obtain ⟨h4, h4', hJ⟩ := hJ
      refine zq_iald C (zs2 hc1) h4 h4' dX2_crosses_38 ?_
      refine zq_callVi C [zr c1, zi a2, zi a3, zi (M (c1 + 2) (M (c1 + 6) a3))] (wD_passesThrough l hc1 _ _ _ _  hJ) ck_X2_88 iv_X2_passesThrough rfl sx82 rfl rfl rfl rfl rfl rfl dX2_crosses_39 (fun r5 N6 hN6 => ?_)
      obtain ⟨rfl, hJ⟩ := hN6
      refine zq_if_ne (tgt := 66) C dX2_crosses_42 rfl (fun h12 => ?_) (fun h12 => ?_)
      · have hJ := hJ.1 h12
        exact hj66 hJ
      · have hJ := hJ.2 h12
        refine zq_aload_n (i := 0) C dX2_crosses_45 rfl rfl ?_
        refine zq_aload_n (i := 1) C dX2_crosses_46 rfl rfl ?_
        refine zq_iload_n (i := 2) C dX2_crosses_47 rfl rfl ?_
        refine zq_iload_n (i := 3) C dX2_crosses_48 rfl rfl ?_
        refine zq_aload_n (i := 1) C dX2_crosses_49 rfl rfl ?_
        refine zq_getr C fk_X2_43 (zs0 hc1) rfl dX2_crosses_50 ?_
        refine zq_aload_n (i := 1) C dX2_crosses_53 rfl rfl ?_
        refine zq_getr C fk_X2_66 (zs0 hc1) rfl dX2_crosses_54 ?_
        refine zq_iload_n (i := 3) C dX2_crosses_57 rfl rfl ?_
        obtain ⟨h7, h7', hJ⟩ := hJ
        refine zq_iald C (zs7 hc1) h7 h7' dX2_crosses_58 ?_
        obtain ⟨h8, h8', hJ⟩ := hJ
        refine zq_iald C (zs2 hc1) h8 h8' dX2_crosses_59 ?_
        refine zq_callVi C [zr c1, zi a2, zi a3, zi (M (c1 + 2) (M (c1 + 7) a3))] (wD_passesThrough l hc1 _ _ _ _  hJ) ck_X2_88 iv_X2_passesThrough rfl sx82 rfl rfl rfl rfl rfl rfl dX2_crosses_60 (fun r9 N10 hN10 => ?_)
        obtain ⟨rfl, hJ⟩ := hN10
        refine zq_if_eq (tgt := 70) C dX2_crosses_63 rfl (fun h11 => ?_) (fun h11 => ?_)
        · have hJ := hJ.1 h11
          refine zq_iconst (x := 0) C dX2_crosses_70 rfl ik_0 ?_
          exact zq_zret C rfl (Or.inl rfl) ⟨_, rfl, rfl, hJ⟩ dX2_crosses_71
        · have hJ := hJ.2 h11
          exact hj66 hJ
    · have hJ := hJ.2 h13
      refine zq_iconst (x := 0) C dX2_crosses_22 rfl ik_0 ?_
      exact zq_zret C rfl (Or.inl rfl) ⟨_, rfl, rfl, hJ⟩ dX2_crosses_23
set_option maxRecDepth 100000 in
set_option maxHeartbeats 4000000 in
theorem wD_pointsOf (l : Launch) {c1 : Nat} (hc1 : zCh c1) (a2 : Int) (M : zM) {Φ : Int → Prop} (hJ : jD_pointsOf c1 a2 M Φ) : zMet l yX2_pointsOf cX2_pointsOf 5 (some .int) 4 94 shX [zr 82, zr c1, zi a2] M (zI (fun z M' => M = M' ∧ Φ z)) := by
  refine zq_enter [some (zr 82), some (zr c1), some (zi a2), none, none] (by decide) rfl (Nat.le_of_ble_eq_true rfl) rfl (fun X C => ?_)
  unfold jD_pointsOf at hJ
  have hl5 : ∀ (s : Int × Int), zwh (fun K s => jD_pointsOf_L5 c1 a2 K Φ M (s.1) (s.2)) s → zG X M 5 [some (zr 82), some (zr c1), some (zi a2), some (zi (s.1)), some (zi (s.2))] [] := by
    refine zwh_sound ?_
    intro K5 s hK5 hJ
    obtain ⟨x3, x4⟩ := s
    have hJ : jD_pointsOf_L5 c1 a2 K5 Φ M x3 x4 := hJ
    show zG X M 5 [some (zr 82), some (zr c1), some (zi a2), some (zi x3), some (zi x4)] []
    unfold jD_pointsOf_L5 at hJ
    have hj31 : ∀ (x4 s0 s1 : Int), jD_pointsOf_J31 c1 a2 K5 Φ x4 s0 s1 M → zG X M 31 [some (zr 82), some (zr c1), some (zi a2), none, some (zi x4)] [zi s1, zi s0] := by
      intro x4 s0 s1 hJ
      unfold jD_pointsOf_J31 at hJ
      obtain ⟨h3, hJ⟩ := hJ
      refine zq_iadd C dX2_pointsOf_31 h3 ?_
      refine zq_istoreN_n (i := 3) C (fun v => [some (zr 82), some (zr c1), some (zi a2), some (zi v), some (zi x4)]) dX2_pointsOf_32 rfl (Nat.le_of_ble_eq_true rfl) (fun _ => rfl) (fun v3_4 hv3_4 => ?_)
      have hJ := hJ v3_4 hv3_4
      refine zq_iload_n (i := 3) C dX2_pointsOf_33 rfl rfl ?_
      refine zq_aload_n (i := 0) C dX2_pointsOf_34 rfl rfl ?_
      refine zq_aload_n (i := 1) C dX2_pointsOf_35 rfl rfl ?_
      refine zq_iload C dX2_pointsOf_36 rfl ?_
      refine zq_iload_n (i := 2) C dX2_pointsOf_38 rfl rfl ?_
      refine zq_callVi C [zr c1, zi x4, zi a2] (wD_crosses l hc1 _ _ _  hJ) ck_X2_84 iv_X2_crosses rfl sx82 rfl rfl rfl rfl rfl rfl dX2_pointsOf_39 (fun r5 N6 hN6 => ?_)
      obtain ⟨rfl, hJ⟩ := hN6
      refine zq_if_eq (tgt := 49) C dX2_pointsOf_42 rfl (fun h13 => ?_) (fun h13 => ?_)
      · have hJ := hJ.1 h13
        refine zq_iconst (x := 0) C dX2_pointsOf_49 rfl ik_0 ?_
        obtain ⟨h7, hJ⟩ := hJ
        refine zq_iadd C dX2_pointsOf_50 h7 ?_
        refine zq_istoreN_n (i := 3) C (fun v => [some (zr 82), some (zr c1), some (zi a2), some (zi v), some (zi x4)]) dX2_pointsOf_51 rfl (Nat.le_of_ble_eq_true rfl) (fun _ => rfl) (fun v3_8 hv3_8 => ?_)
        have hJ := hJ v3_8 hv3_8
        obtain ⟨hv4_9, hJ⟩ := hJ
        refine zq_iinc (y := x4 + 1) (lv' := [some (zr 82), some (zr c1), some (zi a2), some (zi v3_8), some (zi (x4 + 1))]) C dX2_pointsOf_52 rfl rfl hv4_9 rfl ?_
        obtain ⟨v4_9, ev4_9⟩ : ∃ z, z = x4 + 1 := ⟨_, rfl⟩
        rw [← ev4_9]
        have hJ := hJ v4_9 ev4_9
        refine zq_goto (tgt := 5) C dX2_pointsOf_55 rfl ?_
        exact hK5 _ hJ
      · have hJ := hJ.2 h13
        refine zq_iconst (x := 1) C dX2_pointsOf_45 rfl ik_1 ?_
        refine zq_goto (tgt := 50) C dX2_pointsOf_46 rfl ?_
        obtain ⟨h10, hJ⟩ := hJ
        refine zq_iadd C dX2_pointsOf_50 h10 ?_
        refine zq_istoreN_n (i := 3) C (fun v => [some (zr 82), some (zr c1), some (zi a2), some (zi v), some (zi x4)]) dX2_pointsOf_51 rfl (Nat.le_of_ble_eq_true rfl) (fun _ => rfl) (fun v3_11 hv3_11 => ?_)
        have hJ := hJ v3_11 hv3_11
        obtain ⟨hv4_12, hJ⟩ := hJ
        refine zq_iinc (y := x4 + 1) (lv' := [some (zr 82), some (zr c1), some (zi a2), some (zi v3_11), some (zi (x4 + 1))]) C dX2_pointsOf_52 rfl rfl hv4_12 rfl ?_
        obtain ⟨v4_12, ev4_12⟩ : ∃ z, z = x4 + 1 := ⟨_, rfl⟩
        rw [← ev4_12]
        have hJ := hJ v4_12 ev4_12
        refine zq_goto (tgt := 5) C dX2_pointsOf_55 rfl ?_
        exact hK5 _ hJ
    refine zq_iload C dX2_pointsOf_5 rfl ?_
    refine zq_aload_n (i := 1) C dX2_pointsOf_7 rfl rfl ?_
    refine zq_get (kz := 6) C fk_X2_53 (zs0 hc1) rfl dX2_pointsOf_8 rfl ?_
    refine zq_icmp_ge (tgt := 58) C dX2_pointsOf_11 rfl (fun h15 => ?_) (fun h15 => ?_)
    · have hJ := hJ.1 h15
      refine zq_iload_n (i := 3) C dX2_pointsOf_58 rfl rfl ?_
      exact zq_iret C rfl ⟨_, rfl, rfl, hJ⟩ dX2_pointsOf_59
    · have hJ := hJ.2 h15
      refine zq_iload_n (i := 3) C dX2_pointsOf_14 rfl rfl ?_
      refine zq_aload_n (i := 0) C dX2_pointsOf_15 rfl rfl ?_
      refine zq_aload_n (i := 1) C dX2_pointsOf_16 rfl rfl ?_
      refine zq_iload_n (i := 2) C dX2_pointsOf_17 rfl rfl ?_
      refine zq_iload C dX2_pointsOf_18 rfl ?_
      refine zq_callVi C [zr c1, zi a2, zi x4] (wD_crosses l hc1 _ _ _  hJ) ck_X2_84 iv_X2_crosses rfl sx82 rfl rfl rfl rfl rfl rfl dX2_pointsOf_20 (fun r1 N2 hN2 => ?_)
      obtain ⟨rfl, hJ⟩ := hN2
      refine zq_if_eq (tgt := 30) C dX2_pointsOf_23 rfl (fun h14 => ?_) (fun h14 => ?_)
      · have hJ := hJ.1 h14
        refine zq_iconst (x := 0) C dX2_pointsOf_30 rfl ik_0 ?_
        refine zq_weak [some (zr 82), some (zr c1), some (zi a2), none, some (zi x4)] ⟨Or.inr rfl, Or.inr rfl, Or.inr rfl, Or.inl rfl, Or.inr rfl, trivial⟩ ?_
        exact hj31 _ _ _ hJ
      · have hJ := hJ.2 h14
        refine zq_iconst (x := 1) C dX2_pointsOf_26 rfl ik_1 ?_
        refine zq_goto (tgt := 31) C dX2_pointsOf_27 rfl ?_
        refine zq_weak [some (zr 82), some (zr c1), some (zi a2), none, some (zi x4)] ⟨Or.inr rfl, Or.inr rfl, Or.inr rfl, Or.inl rfl, Or.inr rfl, trivial⟩ ?_
        exact hj31 _ _ _ hJ
  refine zq_iconst (x := 0) C dX2_pointsOf_0 rfl ik_0 ?_
  refine zq_istore_n (i := 3) (lv' := [some (zr 82), some (zr c1), some (zi a2), some (zi 0), none]) C dX2_pointsOf_1 rfl (Nat.le_of_ble_eq_true rfl) rfl ?_
  refine zq_iconst (x := 0) C dX2_pointsOf_2 rfl ik_0 ?_
  refine zq_istore (lv' := [some (zr 82), some (zr c1), some (zi a2), some (zi 0), some (zi 0)]) C dX2_pointsOf_3 (Nat.le_of_ble_eq_true rfl) rfl ?_
  exact hl5 _ hJ
set_option maxRecDepth 100000 in
set_option maxHeartbeats 4000000 in
theorem wB_arrowOf (l : Launch) (a1 a2 : Int) (M : zM) {Φ : Int → zM → Prop} (hJ : jB_arrowOf a1 a2 M Φ) : zMet l yX7_arrowOf cX7_arrowOf 7 (some .int) 5 118 shX [zr 70, zi a1, zi a2] M (zI Φ) := by
  refine zq_enter [some (zr 70), some (zi a1), some (zi a2), none, none, none, none] (by decide) rfl (Nat.le_of_ble_eq_true rfl) rfl (fun X C => ?_)
  unfold jB_arrowOf at hJ
  have hj45 : ∀ (x3 s0 : Int) (M : zM), jB_arrowOf_J45 a1 a2 Φ x3 s0 M → zG X M 45 [some (zr 70), some (zi a1), some (zi a2), some (zi x3), none, none, none] [zi s0] := by
    intro x3 s0 M hJ
    unfold jB_arrowOf_J45 at hJ
    refine zq_istore (lv' := [some (zr 70), some (zi a1), some (zi a2), some (zi x3), some (zi s0), none, none]) C dX7_arrowOf_45 (Nat.le_of_ble_eq_true rfl) rfl ?_
    refine zq_aload_n (i := 0) C dX7_arrowOf_47 rfl rfl ?_
    refine zq_getr C fk_X7_10 sx70 rfl dX7_arrowOf_48 ?_
    refine zq_aload_n (i := 0) C dX7_arrowOf_51 rfl rfl ?_
    refine zq_getr C fk_X7_10 sx70 rfl dX7_arrowOf_52 ?_
    refine zq_getr C fk_X7_226 sx0 rfl dX7_arrowOf_55 ?_
    refine zq_iload_n (i := 3) C dX7_arrowOf_58 rfl rfl ?_
    obtain ⟨h5, h5', hJ⟩ := hJ
    refine zq_iald C sx6 h5 h5' dX7_arrowOf_59 ?_
    refine zq_callVi C [zi (M 6 x3)] (wC_endOf l zch0 _ _  hJ) ck_X7_199 iv_X0_endOf rfl sx0 rfl rfl rfl rfl rfl rfl dX7_arrowOf_60 (fun r6 N7 hN7 => ?_)
    obtain ⟨rfl, hJ⟩ := hN7
    refine zq_istore (lv' := [some (zr 70), some (zi a1), some (zi a2), some (zi x3), some (zi s0), some (zi r6), none]) C dX7_arrowOf_63 (Nat.le_of_ble_eq_true rfl) rfl ?_
    refine zq_aload_n (i := 0) C dX7_arrowOf_65 rfl rfl ?_
    refine zq_getr C fk_X7_10 sx70 rfl dX7_arrowOf_66 ?_
    refine zq_getr C fk_X7_124 sx0 rfl dX7_arrowOf_69 ?_
    refine zq_aload_n (i := 0) C dX7_arrowOf_72 rfl rfl ?_
    refine zq_getr C fk_X7_10 sx70 rfl dX7_arrowOf_73 ?_
    refine zq_getr C fk_X7_104 sx0 rfl dX7_arrowOf_76 ?_
    refine zq_iload_n (i := 3) C dX7_arrowOf_79 rfl rfl ?_
    obtain ⟨h8, h8', hJ⟩ := hJ
    refine zq_iald C sx7 h8 h8' dX7_arrowOf_80 ?_
    obtain ⟨h9, h9', hJ⟩ := hJ
    refine zq_iald C sx3 h9 h9' dX7_arrowOf_81 ?_
    refine zq_istoreN C (fun v => [some (zr 70), some (zi a1), some (zi a2), some (zi x3), some (zi s0), some (zi r6), some (zi v)]) dX7_arrowOf_82 (Nat.le_of_ble_eq_true rfl) (fun _ => rfl) (fun v6_10 hv6_10 => ?_)
    have hJ := hJ v6_10 hv6_10
    refine zq_iload_n (i := 2) C dX7_arrowOf_84 rfl rfl ?_
    by_cases g0 : a2 = 0
    · have hJ := hJ.1 g0
      refine zq_tabIn (tgt := 132) C dX7_arrowOf_85 (by rw [g0]; decide) (by rw [g0]; decide) (by rw [g0]; rfl) rfl ?_
      refine zq_aload_n (i := 0) C dX7_arrowOf_132 rfl rfl ?_
      refine zq_getr C fk_X7_10 sx70 rfl dX7_arrowOf_133 ?_
      refine zq_getr C fk_X7_100 sx0 rfl dX7_arrowOf_136 ?_
      refine zq_aload_n (i := 0) C dX7_arrowOf_139 rfl rfl ?_
      refine zq_getr C fk_X7_10 sx70 rfl dX7_arrowOf_140 ?_
      refine zq_getr C fk_X7_226 sx0 rfl dX7_arrowOf_143 ?_
      refine zq_iload_n (i := 3) C dX7_arrowOf_146 rfl rfl ?_
      obtain ⟨h11, h11', hJ⟩ := hJ
      refine zq_iald C sx6 h11 h11' dX7_arrowOf_147 ?_
      obtain ⟨h12, h12', hJ⟩ := hJ
      refine zq_iald C sx1 h12 h12' dX7_arrowOf_148 ?_
      exact zq_iret C rfl ⟨_, rfl, hJ⟩ dX7_arrowOf_149
    have hJ := hJ.2 g0
    by_cases g1 : a2 = 1
    · have hJ := hJ.1 g1
      refine zq_tabIn (tgt := 150) C dX7_arrowOf_85 (by rw [g1]; decide) (by rw [g1]; decide) (by rw [g1]; rfl) rfl ?_
      refine zq_aload_n (i := 0) C dX7_arrowOf_150 rfl rfl ?_
      refine zq_getr C fk_X7_10 sx70 rfl dX7_arrowOf_151 ?_
      refine zq_getr C fk_X7_100 sx0 rfl dX7_arrowOf_154 ?_
      refine zq_aload_n (i := 0) C dX7_arrowOf_157 rfl rfl ?_
      refine zq_getr C fk_X7_10 sx70 rfl dX7_arrowOf_158 ?_
      refine zq_getr C fk_X7_104 sx0 rfl dX7_arrowOf_161 ?_
      refine zq_iload_n (i := 3) C dX7_arrowOf_164 rfl rfl ?_
      obtain ⟨h13, h13', hJ⟩ := hJ
      refine zq_iald C sx7 h13 h13' dX7_arrowOf_165 ?_
      obtain ⟨h14, h14', hJ⟩ := hJ
      refine zq_iald C sx1 h14 h14' dX7_arrowOf_166 ?_
      exact zq_iret C rfl ⟨_, rfl, hJ⟩ dX7_arrowOf_167
    have hJ := hJ.2 g1
    by_cases g2 : a2 = 2
    · have hJ := hJ.1 g2
      refine zq_tabIn (tgt := 168) C dX7_arrowOf_85 (by rw [g2]; decide) (by rw [g2]; decide) (by rw [g2]; rfl) rfl ?_
      refine zq_aload_n (i := 0) C dX7_arrowOf_168 rfl rfl ?_
      refine zq_getr C fk_X7_46 sx70 rfl dX7_arrowOf_169 ?_
      refine zq_getr C fk_X7_223 sx82 rfl dX7_arrowOf_172 ?_
      refine zq_iload_n (i := 3) C dX7_arrowOf_175 rfl rfl ?_
      obtain ⟨h15, h15', hJ⟩ := hJ
      refine zq_iald C sx83 h15 h15' dX7_arrowOf_176 ?_
      exact zq_iret C rfl ⟨_, rfl, hJ⟩ dX7_arrowOf_177
    have hJ := hJ.2 g2
    by_cases g3 : a2 = 3
    · have hJ := hJ.1 g3
      refine zq_tabIn (tgt := 178) C dX7_arrowOf_85 (by rw [g3]; decide) (by rw [g3]; decide) (by rw [g3]; rfl) rfl ?_
      refine zq_aload_n (i := 0) C dX7_arrowOf_178 rfl rfl ?_
      refine zq_getr C fk_X7_10 sx70 rfl dX7_arrowOf_179 ?_
      refine zq_iload_n (i := 3) C dX7_arrowOf_182 rfl rfl ?_
      refine zq_callVi C [zi x3] (wC_lateBy l zch0 _ _  hJ) ck_X7_229 iv_X0_lateBy rfl sx0 rfl rfl rfl rfl rfl rfl dX7_arrowOf_183 (fun r16 N17 hN17 => ?_)
      obtain ⟨rfl, hJ⟩ := hN17
      exact zq_iret C rfl ⟨_, rfl, hJ⟩ dX7_arrowOf_186
    have hJ := hJ.2 g3
    by_cases g4 : a2 = 4
    · have hJ := hJ.1 g4
      refine zq_tabIn (tgt := 187) C dX7_arrowOf_85 (by rw [g4]; decide) (by rw [g4]; decide) (by rw [g4]; rfl) rfl ?_
      refine zq_aload_n (i := 0) C dX7_arrowOf_187 rfl rfl ?_
      refine zq_getr C fk_X7_46 sx70 rfl dX7_arrowOf_188 ?_
      refine zq_aload_n (i := 0) C dX7_arrowOf_191 rfl rfl ?_
      refine zq_getr C fk_X7_10 sx70 rfl dX7_arrowOf_192 ?_
      refine zq_iload_n (i := 3) C dX7_arrowOf_195 rfl rfl ?_
      refine zq_callVi C [zr 0, zi x3] (wD_freeBends l zch0 _ _  hJ) ck_X7_232 iv_X2_freeBends rfl sx82 rfl rfl rfl rfl rfl rfl dX7_arrowOf_196 (fun r18 N19 hN19 => ?_)
      obtain ⟨rfl, hJ⟩ := hN19
      exact zq_iret C rfl ⟨_, rfl, hJ⟩ dX7_arrowOf_199
    have hJ := hJ.2 g4
    by_cases g5 : a2 = 5
    · have hJ := hJ.1 g5
      refine zq_tabIn (tgt := 200) C dX7_arrowOf_85 (by rw [g5]; decide) (by rw [g5]; decide) (by rw [g5]; rfl) rfl ?_
      refine zq_iload C dX7_arrowOf_200 rfl ?_
      refine zq_if_eq (tgt := 219) C dX7_arrowOf_202 rfl (fun h22 => ?_) (fun h22 => ?_)
      · have hJ := hJ.1 h22
        refine zq_bipush (x := (-5)) C dX7_arrowOf_219 bi_m5 ik_m5 ?_
        exact zq_iret C rfl ⟨_, rfl, hJ⟩ dX7_arrowOf_221
      · have hJ := hJ.2 h22
        refine zq_aload_n (i := 0) C dX7_arrowOf_205 rfl rfl ?_
        refine zq_getr C fk_X7_10 sx70 rfl dX7_arrowOf_206 ?_
        refine zq_iload C dX7_arrowOf_209 rfl ?_
        refine zq_iload C dX7_arrowOf_211 rfl ?_
        refine zq_callVi C [zi r6, zi v6_10] (wC_widthBetween l zch0 _ _ _  hJ) ck_X7_205 iv_X0_widthBetween rfl sx0 rfl rfl rfl rfl rfl rfl dX7_arrowOf_213 (fun r20 N21 hN21 => ?_)
        obtain ⟨rfl, hJ⟩ := hN21
        refine zq_goto (tgt := 221) C dX7_arrowOf_216 rfl ?_
        exact zq_iret C rfl ⟨_, rfl, hJ⟩ dX7_arrowOf_221
    have hJ := hJ.2 g5
    by_cases g6 : a2 = 6
    · have hJ := hJ.1 g6
      refine zq_tabIn (tgt := 222) C dX7_arrowOf_85 (by rw [g6]; decide) (by rw [g6]; decide) (by rw [g6]; rfl) rfl ?_
      refine zq_aload_n (i := 0) C dX7_arrowOf_222 rfl rfl ?_
      refine zq_getr C fk_X7_46 sx70 rfl dX7_arrowOf_223 ?_
      refine zq_aload_n (i := 0) C dX7_arrowOf_226 rfl rfl ?_
      refine zq_getr C fk_X7_10 sx70 rfl dX7_arrowOf_227 ?_
      refine zq_iload_n (i := 3) C dX7_arrowOf_230 rfl rfl ?_
      refine zq_callVi C [zr 0, zi x3] (wD_pointsOf l zch0 _ _  hJ) ck_X7_235 iv_X2_pointsOf rfl sx82 rfl rfl rfl rfl rfl rfl dX7_arrowOf_231 (fun r23 N24 hN24 => ?_)
      obtain ⟨rfl, hJ⟩ := hN24
      exact zq_iret C rfl ⟨_, rfl, hJ⟩ dX7_arrowOf_234
    have hJ := hJ.2 g6
    by_cases g7 : a2 = 7
    · have hJ := hJ.1 g7
      refine zq_tabIn (tgt := 235) C dX7_arrowOf_85 (by rw [g7]; decide) (by rw [g7]; decide) (by rw [g7]; rfl) rfl ?_
      refine zq_iload C dX7_arrowOf_235 rfl ?_
      refine zq_if_eq (tgt := 258) C dX7_arrowOf_237 rfl (fun h31 => ?_) (fun h31 => ?_)
      · have hJ := hJ.1 h31
        refine zq_bipush (x := (-5)) C dX7_arrowOf_258 bi_m5 ik_m5 ?_
        exact zq_iret C rfl ⟨_, rfl, hJ⟩ dX7_arrowOf_260
      · have hJ := hJ.2 h31
        refine zq_aload_n (i := 0) C dX7_arrowOf_240 rfl rfl ?_
        refine zq_iload C dX7_arrowOf_241 rfl ?_
        refine zq_callVi C [zi v6_10] (wB_stripOf l _ _  hJ) ck_X7_217 iv_X7_stripOf rfl sx70 rfl rfl rfl rfl rfl rfl dX7_arrowOf_243 (fun r25 M26 hJ => ?_)
        refine zq_aload_n (i := 0) C dX7_arrowOf_246 rfl rfl ?_
        refine zq_iload C dX7_arrowOf_247 rfl ?_
        refine zq_iconst (x := 1) C dX7_arrowOf_249 rfl ik_1 ?_
        obtain ⟨h27, hJ⟩ := hJ
        refine zq_isub C dX7_arrowOf_250 h27 ?_
        refine zq_callVi C [zi (r6 - 1)] (wB_stripOf l _ _  hJ) ck_X7_217 iv_X7_stripOf rfl sx70 rfl rfl rfl rfl rfl rfl dX7_arrowOf_251 (fun r28 M29 hJ => ?_)
        obtain ⟨h30, hJ⟩ := hJ
        refine zq_isub C dX7_arrowOf_254 h30 ?_
        refine zq_goto (tgt := 260) C dX7_arrowOf_255 rfl ?_
        exact zq_iret C rfl ⟨_, rfl, hJ⟩ dX7_arrowOf_260
    have hJ := hJ.2 g7
    refine zq_tabOut (tgt := 261) C dX7_arrowOf_85 (zto8 g0 g1 g2 g3 g4 g5 g6 g7) rfl ?_
    refine zq_bipush (x := (-2)) C dX7_arrowOf_261 bi_m2 ik_m2 ?_
    exact zq_iret C rfl ⟨_, rfl, hJ⟩ dX7_arrowOf_263
  refine zq_aload_n (i := 0) C dX7_arrowOf_0 rfl rfl ?_
  refine zq_getr C fk_X7_10 sx70 rfl dX7_arrowOf_1 ?_
  refine zq_iload_n (i := 1) C dX7_arrowOf_4 rfl rfl ?_
  refine zq_callVi C [zi a1] (wC_arrowSlotOf l zch0 _ _  hJ) ck_X7_97 iv_X0_arrowSlotOf rfl sx0 rfl rfl rfl rfl rfl rfl dX7_arrowOf_5 (fun r1 N2 hN2 => ?_)
  obtain ⟨rfl, hJ⟩ := hN2
  refine zq_istore_n (i := 3) (lv' := [some (zr 70), some (zi a1), some (zi a2), some (zi r1), none, none, none]) C dX7_arrowOf_8 rfl (Nat.le_of_ble_eq_true rfl) rfl ?_
  refine zq_iload_n (i := 3) C dX7_arrowOf_9 rfl rfl ?_
  refine zq_if_ge (tgt := 15) C dX7_arrowOf_10 rfl (fun h33 => ?_) (fun h33 => ?_)
  · have hJ := hJ.1 h33
    refine zq_aload_n (i := 0) C dX7_arrowOf_15 rfl rfl ?_
    refine zq_getr C fk_X7_46 sx70 rfl dX7_arrowOf_16 ?_
    refine zq_aload_n (i := 0) C dX7_arrowOf_19 rfl rfl ?_
    refine zq_getr C fk_X7_10 sx70 rfl dX7_arrowOf_20 ?_
    refine zq_callVv C [zr 0] (wD_draw l zch0 _  hJ) ck_X7_131 iv_X2_draw rfl sx82 rfl rfl rfl rfl rfl rfl dX7_arrowOf_23 (fun M3 hJ => ?_)
    refine zq_aload_n (i := 0) C dX7_arrowOf_26 rfl rfl ?_
    refine zq_getr C fk_X7_46 sx70 rfl dX7_arrowOf_27 ?_
    refine zq_getr C fk_X7_223 sx82 rfl dX7_arrowOf_30 ?_
    refine zq_iload_n (i := 3) C dX7_arrowOf_33 rfl rfl ?_
    obtain ⟨h4, h4', hJ⟩ := hJ
    refine zq_iald C sx83 h4 h4' dX7_arrowOf_34 ?_
    refine zq_bipush (x := (-5)) C dX7_arrowOf_35 bi_m5 ik_m5 ?_
    refine zq_icmp_eq (tgt := 44) C dX7_arrowOf_37 rfl (fun h32 => ?_) (fun h32 => ?_)
    · have hJ := hJ.1 h32
      refine zq_iconst (x := 0) C dX7_arrowOf_44 rfl ik_0 ?_
      exact hj45 _ _ _ hJ
    · have hJ := hJ.2 h32
      refine zq_iconst (x := 1) C dX7_arrowOf_40 rfl ik_1 ?_
      refine zq_goto (tgt := 45) C dX7_arrowOf_41 rfl ?_
      exact hj45 _ _ _ hJ
  · have hJ := hJ.2 h33
    refine zq_iconst (x := (-1)) C dX7_arrowOf_13 rfl ik_m1 ?_
    exact zq_iret C rfl ⟨_, rfl, hJ⟩ dX7_arrowOf_14
set_option maxRecDepth 100000 in
set_option maxHeartbeats 4000000 in
theorem wD_whyShut (l : Launch) {c1 : Nat} (hc1 : zCh c1) (a2 a3 : Int) (M : zM) {Φ : Int → zM → Prop} (hJ : jD_whyShut c1 a2 a3 M Φ) : zMet l yX2_whyShut cX2_whyShut 4 (some .int) 2 47 shX [zr 82, zr c1, zi a2, zi a3] M (zI Φ) := by
  refine zq_enter [some (zr 82), some (zr c1), some (zi a2), some (zi a3)] (by decide) rfl (Nat.le_of_ble_eq_true rfl) rfl (fun X C => ?_)
  unfold jD_whyShut at hJ
  refine zq_iload_n (i := 3) C dX2_whyShut_0 rfl rfl ?_
  refine zq_aload_n (i := 1) C dX2_whyShut_1 rfl rfl ?_
  refine zq_aload_n (i := 1) C dX2_whyShut_2 rfl rfl ?_
  refine zq_getr C fk_X2_63 (zs0 hc1) rfl dX2_whyShut_3 ?_
  refine zq_iload_n (i := 2) C dX2_whyShut_6 rfl rfl ?_
  obtain ⟨h1, h1', hJ⟩ := hJ
  refine zq_iald C (zs6 hc1) h1 h1' dX2_whyShut_7 ?_
  refine zq_callVi C [zi (M (c1 + 6) a2)] (wC_endOf l hc1 _ _  hJ) ck_X2_30 iv_X0_endOf rfl (zs0 hc1) rfl rfl rfl rfl rfl rfl dX2_whyShut_8 (fun r2 N3 hN3 => ?_)
  obtain ⟨rfl, hJ⟩ := hN3
  refine zq_icmp_lt (tgt := 29) C dX2_whyShut_11 rfl (fun h18 => ?_) (fun h18 => ?_)
  · have hJ := hJ.1 h18
    refine zq_iconst (x := 1) C dX2_whyShut_29 rfl ik_1 ?_
    exact zq_iret C rfl ⟨_, rfl, hJ⟩ dX2_whyShut_30
  · have hJ := hJ.2 h18
    refine zq_iload_n (i := 3) C dX2_whyShut_14 rfl rfl ?_
    refine zq_aload_n (i := 1) C dX2_whyShut_15 rfl rfl ?_
    refine zq_getr C fk_X2_40 (zs0 hc1) rfl dX2_whyShut_16 ?_
    refine zq_aload_n (i := 1) C dX2_whyShut_19 rfl rfl ?_
    refine zq_getr C fk_X2_66 (zs0 hc1) rfl dX2_whyShut_20 ?_
    refine zq_iload_n (i := 2) C dX2_whyShut_23 rfl rfl ?_
    obtain ⟨h4, h4', hJ⟩ := hJ
    refine zq_iald C (zs7 hc1) h4 h4' dX2_whyShut_24 ?_
    obtain ⟨h5, h5', hJ⟩ := hJ
    refine zq_iald C (zs3 hc1) h5 h5' dX2_whyShut_25 ?_
    refine zq_icmp_le (tgt := 31) C dX2_whyShut_26 rfl (fun h17 => ?_) (fun h17 => ?_)
    · have hJ := hJ.1 h17
      refine zq_iload_n (i := 3) C dX2_whyShut_31 rfl rfl ?_
      refine zq_aload_n (i := 0) C dX2_whyShut_32 rfl rfl ?_
      refine zq_aload_n (i := 1) C dX2_whyShut_33 rfl rfl ?_
      refine zq_iload_n (i := 2) C dX2_whyShut_34 rfl rfl ?_
      refine zq_callVi C [zr c1, zi a2] (wD_highest l hc1 _ _  hJ) ck_X2_72 iv_X2_highest rfl sx82 rfl rfl rfl rfl rfl rfl dX2_whyShut_35 (fun r6 N7 hN7 => ?_)
      obtain ⟨rfl, hJ⟩ := hN7
      refine zq_icmp_le (tgt := 43) C dX2_whyShut_38 rfl (fun h16 => ?_) (fun h16 => ?_)
      · have hJ := hJ.1 h16
        refine zq_iload_n (i := 3) C dX2_whyShut_43 rfl rfl ?_
        refine zq_aload_n (i := 0) C dX2_whyShut_44 rfl rfl ?_
        refine zq_aload_n (i := 1) C dX2_whyShut_45 rfl rfl ?_
        refine zq_iload_n (i := 2) C dX2_whyShut_46 rfl rfl ?_
        refine zq_callVi C [zr c1, zi a2] (wD_lowest l hc1 _ _  hJ) ck_X2_75 iv_X2_lowest rfl sx82 rfl rfl rfl rfl rfl rfl dX2_whyShut_47 (fun r8 N9 hN9 => ?_)
        obtain ⟨rfl, hJ⟩ := hN9
        refine zq_icmp_ge (tgt := 55) C dX2_whyShut_50 rfl (fun h15 => ?_) (fun h15 => ?_)
        · have hJ := hJ.1 h15
          refine zq_aload_n (i := 0) C dX2_whyShut_55 rfl rfl ?_
          refine zq_aload_n (i := 1) C dX2_whyShut_56 rfl rfl ?_
          refine zq_callVv C [zr c1] (wD_readBars l hc1 _  hJ) ck_X2_46 iv_X2_readBars rfl sx82 rfl rfl rfl rfl rfl rfl dX2_whyShut_57 (fun M10 hJ => ?_)
          refine zq_aload_n (i := 0) C dX2_whyShut_60 rfl rfl ?_
          refine zq_getr C fk_X2_15 sx82 rfl dX2_whyShut_61 ?_
          refine zq_iload_n (i := 3) C dX2_whyShut_64 rfl rfl ?_
          obtain ⟨h11, h11', hJ⟩ := hJ
          refine zq_iald C sx84 h11 h11' dX2_whyShut_65 ?_
          refine zq_aload_n (i := 0) C dX2_whyShut_66 rfl rfl ?_
          refine zq_aload_n (i := 1) C dX2_whyShut_67 rfl rfl ?_
          refine zq_iload_n (i := 2) C dX2_whyShut_68 rfl rfl ?_
          refine zq_callVi C [zr c1, zi a2] (wD_lanesBetween l hc1 _ _  hJ) ck_X2_69 iv_X2_lanesBetween rfl sx82 rfl rfl rfl rfl rfl rfl dX2_whyShut_69 (fun r12 N13 hN13 => ?_)
          obtain ⟨rfl, hJ⟩ := hN13
          refine zq_iand C dX2_whyShut_72 ?_
          refine zq_if_ne (tgt := 80) C dX2_whyShut_73 rfl (fun h14 => ?_) (fun h14 => ?_)
          · have hJ := hJ.1 h14
            refine zq_iconst (x := 4) C dX2_whyShut_80 rfl ik_4 ?_
            exact zq_iret C rfl ⟨_, rfl, hJ⟩ dX2_whyShut_81
          · have hJ := hJ.2 h14
            refine zq_iconst (x := 0) C dX2_whyShut_76 rfl ik_0 ?_
            refine zq_goto (tgt := 81) C dX2_whyShut_77 rfl ?_
            exact zq_iret C rfl ⟨_, rfl, hJ⟩ dX2_whyShut_81
        · have hJ := hJ.2 h15
          refine zq_iconst (x := 3) C dX2_whyShut_53 rfl ik_3 ?_
          exact zq_iret C rfl ⟨_, rfl, hJ⟩ dX2_whyShut_54
      · have hJ := hJ.2 h16
        refine zq_iconst (x := 2) C dX2_whyShut_41 rfl ik_2 ?_
        exact zq_iret C rfl ⟨_, rfl, hJ⟩ dX2_whyShut_42
    · have hJ := hJ.2 h17
      refine zq_iconst (x := 1) C dX2_whyShut_29 rfl ik_1 ?_
      exact zq_iret C rfl ⟨_, rfl, hJ⟩ dX2_whyShut_30
set_option maxRecDepth 100000 in
set_option maxHeartbeats 4000000 in
theorem wB_reason (l : Launch) (a1 a2 : Int) (M : zM) {Φ : Int → zM → Prop} (hJ : jB_reason a1 a2 M Φ) : zMet l yX7_reason cX7_reason 4 (some .int) 3 70 shX [zr 70, zi a1, zi a2] M (zI Φ) := by
  refine zq_enter [some (zr 70), some (zi a1), some (zi a2), none] (by decide) rfl (Nat.le_of_ble_eq_true rfl) rfl (fun X C => ?_)
  unfold jB_reason at hJ
  refine zq_aload_n (i := 0) C dX7_reason_0 rfl rfl ?_
  refine zq_getr C fk_X7_10 sx70 rfl dX7_reason_1 ?_
  refine zq_iload_n (i := 1) C dX7_reason_4 rfl rfl ?_
  refine zq_callVi C [zi a1] (wC_arrowSlotOf l zch0 _ _  hJ) ck_X7_97 iv_X0_arrowSlotOf rfl sx0 rfl rfl rfl rfl rfl rfl dX7_reason_5 (fun r1 N2 hN2 => ?_)
  obtain ⟨rfl, hJ⟩ := hN2
  refine zq_istore_n (i := 3) (lv' := [some (zr 70), some (zi a1), some (zi a2), some (zi r1)]) C dX7_reason_8 rfl (Nat.le_of_ble_eq_true rfl) rfl ?_
  refine zq_iload_n (i := 3) C dX7_reason_9 rfl rfl ?_
  refine zq_if_ge (tgt := 17) C dX7_reason_10 rfl (fun h5 => ?_) (fun h5 => ?_)
  · have hJ := hJ.1 h5
    refine zq_aload_n (i := 0) C dX7_reason_17 rfl rfl ?_
    refine zq_getr C fk_X7_46 sx70 rfl dX7_reason_18 ?_
    refine zq_aload_n (i := 0) C dX7_reason_21 rfl rfl ?_
    refine zq_getr C fk_X7_10 sx70 rfl dX7_reason_22 ?_
    refine zq_iload_n (i := 3) C dX7_reason_25 rfl rfl ?_
    refine zq_iload_n (i := 2) C dX7_reason_26 rfl rfl ?_
    refine zq_callVi C [zr 0, zi r1, zi a2] (wD_whyShut l zch0 _ _ _  hJ) ck_X7_238 iv_X2_whyShut rfl sx82 rfl rfl rfl rfl rfl rfl dX7_reason_27 (fun r3 M4 hJ => ?_)
    exact zq_iret C rfl ⟨_, rfl, hJ⟩ dX7_reason_30
  · have hJ := hJ.2 h5
    refine zq_iconst (x := (-1)) C dX7_reason_13 rfl ik_m1 ?_
    refine zq_goto (tgt := 30) C dX7_reason_14 rfl ?_
    exact zq_iret C rfl ⟨_, rfl, hJ⟩ dX7_reason_30
set_option maxRecDepth 100000 in
set_option maxHeartbeats 4000000 in
theorem wC_barAt (l : Launch) {b : Nat} (hb : zCh b) (a1 a2 : Int) (M : zM) {Φ : Int → Prop} (hJ : jC_barAt b a1 a2 M Φ) : zMet l yX0_barAt cX0_barAt 4 (some .int) 2 44 shX [zr b, zi a1, zi a2] M (zI (fun z M' => M = M' ∧ Φ z)) := by
  refine zq_enter [some (zr b), some (zi a1), some (zi a2), none] (by decide) rfl (Nat.le_of_ble_eq_true rfl) rfl (fun X C => ?_)
  unfold jC_barAt at hJ
  have hl2 : ∀ (s : Int), zwh (fun K s => jC_barAt_L2 b a1 a2 K Φ M (s)) s → zG X M 2 [some (zr b), some (zi a1), some (zi a2), some (zi s)] [] := by
    refine zwh_sound ?_
    intro K2 s hK2 hJ
    obtain ⟨x3, rfl⟩ : ∃ z, z = s := ⟨_, rfl⟩
    have hJ : jC_barAt_L2 b a1 a2 K2 Φ M x3 := hJ
    show zG X M 2 [some (zr b), some (zi a1), some (zi a2), some (zi x3)] []
    unfold jC_barAt_L2 at hJ
    refine zq_iload_n (i := 3) C dX0_barAt_2 rfl rfl ?_
    refine zq_aload_n (i := 0) C dX0_barAt_3 rfl rfl ?_
    refine zq_get (kz := 0) C fk_X0_45 (zs0 hb) rfl dX0_barAt_4 rfl ?_
    refine zq_icmp_ge (tgt := 45) C dX0_barAt_7 rfl (fun h10 => ?_) (fun h10 => ?_)
    · have hJ := hJ.1 h10
      refine zq_bipush (x := (-5)) C dX0_barAt_45 bi_m5 ik_m5 ?_
      exact zq_iret C rfl ⟨_, rfl, rfl, hJ⟩ dX0_barAt_47
    · have hJ := hJ.2 h10
      refine zq_aload_n (i := 0) C dX0_barAt_10 rfl rfl ?_
      refine zq_getr C fk_X0_15 (zs0 hb) rfl dX0_barAt_11 ?_
      refine zq_iload_n (i := 3) C dX0_barAt_14 rfl rfl ?_
      obtain ⟨h1, h1', hJ⟩ := hJ
      refine zq_iald C (zs2 hb) h1 h1' dX0_barAt_15 ?_
      refine zq_iload_n (i := 1) C dX0_barAt_16 rfl rfl ?_
      refine zq_icmp_ne (tgt := 39) C dX0_barAt_17 rfl (fun h9 => ?_) (fun h9 => ?_)
      · have hJ := hJ.1 h9
        obtain ⟨hv3_2, hJ⟩ := hJ
        refine zq_iinc (y := x3 + 1) (lv' := [some (zr b), some (zi a1), some (zi a2), some (zi (x3 + 1))]) C dX0_barAt_39 rfl rfl hv3_2 rfl ?_
        obtain ⟨v3_2, ev3_2⟩ : ∃ z, z = x3 + 1 := ⟨_, rfl⟩
        rw [← ev3_2]
        have hJ := hJ v3_2 ev3_2
        refine zq_goto (tgt := 2) C dX0_barAt_42 rfl ?_
        exact hK2 _ hJ
      · have hJ := hJ.2 h9
        refine zq_aload_n (i := 0) C dX0_barAt_20 rfl rfl ?_
        refine zq_iload_n (i := 3) C dX0_barAt_21 rfl rfl ?_
        refine zq_iload_n (i := 2) C dX0_barAt_22 rfl rfl ?_
        refine zq_iload_n (i := 2) C dX0_barAt_23 rfl rfl ?_
        refine zq_iconst (x := 1) C dX0_barAt_24 rfl ik_1 ?_
        obtain ⟨h3, hJ⟩ := hJ
        refine zq_iadd C dX0_barAt_25 h3 ?_
        refine zq_callVi C [zi x3, zi a2, zi (a2 + 1)] (wC_sharesDays l hb _ _ _ _  hJ) ck_X0_93 iv_X0_sharesDays rfl (zs0 hb) rfl rfl rfl rfl rfl rfl dX0_barAt_26 (fun r4 N5 hN5 => ?_)
        obtain ⟨rfl, hJ⟩ := hN5
        refine zq_if_eq (tgt := 39) C dX0_barAt_29 rfl (fun h8 => ?_) (fun h8 => ?_)
        · have hJ := hJ.1 h8
          obtain ⟨hv3_6, hJ⟩ := hJ
          refine zq_iinc (y := x3 + 1) (lv' := [some (zr b), some (zi a1), some (zi a2), some (zi (x3 + 1))]) C dX0_barAt_39 rfl rfl hv3_6 rfl ?_
          obtain ⟨v3_6, ev3_6⟩ : ∃ z, z = x3 + 1 := ⟨_, rfl⟩
          rw [← ev3_6]
          have hJ := hJ v3_6 ev3_6
          refine zq_goto (tgt := 2) C dX0_barAt_42 rfl ?_
          exact hK2 _ hJ
        · have hJ := hJ.2 h8
          refine zq_aload_n (i := 0) C dX0_barAt_32 rfl rfl ?_
          refine zq_getr C fk_X0_9 (zs0 hb) rfl dX0_barAt_33 ?_
          refine zq_iload_n (i := 3) C dX0_barAt_36 rfl rfl ?_
          obtain ⟨h7, h7', hJ⟩ := hJ
          refine zq_iald C (zs1 hb) h7 h7' dX0_barAt_37 ?_
          exact zq_iret C rfl ⟨_, rfl, rfl, hJ⟩ dX0_barAt_38
  refine zq_iconst (x := 0) C dX0_barAt_0 rfl ik_0 ?_
  refine zq_istore_n (i := 3) (lv' := [some (zr b), some (zi a1), some (zi a2), some (zi 0)]) C dX0_barAt_1 rfl (Nat.le_of_ble_eq_true rfl) rfl ?_
  exact hl2 _ hJ
set_option maxRecDepth 100000 in
set_option maxHeartbeats 4000000 in
theorem wB_cell (l : Launch) (a1 a2 : Int) (M : zM) {Φ : Int → Prop} (hJ : jB_cell a1 a2 M Φ) : zMet l yX7_cell cX7_cell 3 (some .int) 3 67 shX [zr 70, zi a1, zi a2] M (zI (fun z M' => M = M' ∧ Φ z)) := by
  refine zq_enter [some (zr 70), some (zi a1), some (zi a2)] (by decide) rfl (Nat.le_of_ble_eq_true rfl) rfl (fun X C => ?_)
  unfold jB_cell at hJ
  refine zq_iload_n (i := 1) C dX7_cell_0 rfl rfl ?_
  refine zq_callSi C [zi a1] (wB_isLane l _ _  hJ) ck_X7_111 st_X7_isLane rfl rfl rfl rfl rfl rfl dX7_cell_1 (fun r1 N2 hN2 => ?_)
  obtain ⟨rfl, hJ⟩ := hN2
  refine zq_if_eq (tgt := 26) C dX7_cell_4 rfl (fun h8 => ?_) (fun h8 => ?_)
  · have hJ := hJ.1 h8
    refine zq_iconst (x := (-1)) C dX7_cell_26 rfl ik_m1 ?_
    exact zq_iret C rfl ⟨_, rfl, rfl, hJ⟩ dX7_cell_27
  · have hJ := hJ.2 h8
    refine zq_iload_n (i := 2) C dX7_cell_7 rfl rfl ?_
    refine zq_callSi C [zi a2] (wB_isDay l _ _  hJ) ck_X7_115 st_X7_isDay rfl rfl rfl rfl rfl rfl dX7_cell_8 (fun r3 N4 hN4 => ?_)
    obtain ⟨rfl, hJ⟩ := hN4
    refine zq_if_eq (tgt := 26) C dX7_cell_11 rfl (fun h7 => ?_) (fun h7 => ?_)
    · have hJ := hJ.1 h7
      refine zq_iconst (x := (-1)) C dX7_cell_26 rfl ik_m1 ?_
      exact zq_iret C rfl ⟨_, rfl, rfl, hJ⟩ dX7_cell_27
    · have hJ := hJ.2 h7
      refine zq_aload_n (i := 0) C dX7_cell_14 rfl rfl ?_
      refine zq_getr C fk_X7_10 sx70 rfl dX7_cell_15 ?_
      refine zq_iload_n (i := 1) C dX7_cell_18 rfl rfl ?_
      refine zq_iload_n (i := 2) C dX7_cell_19 rfl rfl ?_
      refine zq_callVi C [zi a1, zi a2] (wC_barAt l zch0 _ _ _  hJ) ck_X7_241 iv_X0_barAt rfl sx0 rfl rfl rfl rfl rfl rfl dX7_cell_20 (fun r5 N6 hN6 => ?_)
      obtain ⟨rfl, hJ⟩ := hN6
      refine zq_goto (tgt := 27) C dX7_cell_23 rfl ?_
      exact zq_iret C rfl ⟨_, rfl, rfl, hJ⟩ dX7_cell_27
set_option maxRecDepth 100000 in
set_option maxHeartbeats 4000000 in
theorem wC_barsShown (l : Launch) {b : Nat} (hb : zCh b) (a1 a2 : Int) (M : zM) {Φ : Int → Prop} (hJ : jC_barsShown b a1 a2 M Φ) : zMet l yX0_barsShown cX0_barsShown 5 (some .int) 2 44 shX [zr b, zi a1, zi a2] M (zI (fun z M' => M = M' ∧ Φ z)) := by
  refine zq_enter [some (zr b), some (zi a1), some (zi a2), none, none] (by decide) rfl (Nat.le_of_ble_eq_true rfl) rfl (fun X C => ?_)
  unfold jC_barsShown at hJ
  have hl5 : ∀ (s : Int × Int), zwh (fun K s => jC_barsShown_L5 b a1 a2 K Φ M (s.1) (s.2)) s → zG X M 5 [some (zr b), some (zi a1), some (zi a2), some (zi (s.1)), some (zi (s.2))] [] := by
    refine zwh_sound ?_
    intro K5 s hK5 hJ
    obtain ⟨x3, x4⟩ := s
    have hJ : jC_barsShown_L5 b a1 a2 K5 Φ M x3 x4 := hJ
    show zG X M 5 [some (zr b), some (zi a1), some (zi a2), some (zi x3), some (zi x4)] []
    unfold jC_barsShown_L5 at hJ
    refine zq_iload C dX0_barsShown_5 rfl ?_
    refine zq_aload_n (i := 0) C dX0_barsShown_7 rfl rfl ?_
    refine zq_get (kz := 0) C fk_X0_45 (zs0 hb) rfl dX0_barsShown_8 rfl ?_
    refine zq_icmp_ge (tgt := 39) C dX0_barsShown_11 rfl (fun h10 => ?_) (fun h10 => ?_)
    · have hJ := hJ.1 h10
      refine zq_iload_n (i := 3) C dX0_barsShown_39 rfl rfl ?_
      exact zq_iret C rfl ⟨_, rfl, rfl, hJ⟩ dX0_barsShown_40
    · have hJ := hJ.2 h10
      refine zq_iload_n (i := 3) C dX0_barsShown_14 rfl rfl ?_
      refine zq_aload_n (i := 0) C dX0_barsShown_15 rfl rfl ?_
      refine zq_iload C dX0_barsShown_16 rfl ?_
      refine zq_iload_n (i := 1) C dX0_barsShown_18 rfl rfl ?_
      refine zq_iload_n (i := 2) C dX0_barsShown_19 rfl rfl ?_
      refine zq_callVi C [zi x4, zi a1, zi a2] (wC_sharesDays l hb _ _ _ _  hJ) ck_X0_93 iv_X0_sharesDays rfl (zs0 hb) rfl rfl rfl rfl rfl rfl dX0_barsShown_20 (fun r1 N2 hN2 => ?_)
      obtain ⟨rfl, hJ⟩ := hN2
      refine zq_if_eq (tgt := 30) C dX0_barsShown_23 rfl (fun h9 => ?_) (fun h9 => ?_)
      · have hJ := hJ.1 h9
        refine zq_iconst (x := 0) C dX0_barsShown_30 rfl ik_0 ?_
        obtain ⟨h3, hJ⟩ := hJ
        refine zq_iadd C dX0_barsShown_31 h3 ?_
        refine zq_istoreN_n (i := 3) C (fun v => [some (zr b), some (zi a1), some (zi a2), some (zi v), some (zi x4)]) dX0_barsShown_32 rfl (Nat.le_of_ble_eq_true rfl) (fun _ => rfl) (fun v3_4 hv3_4 => ?_)
        have hJ := hJ v3_4 hv3_4
        obtain ⟨hv4_5, hJ⟩ := hJ
        refine zq_iinc (y := x4 + 1) (lv' := [some (zr b), some (zi a1), some (zi a2), some (zi v3_4), some (zi (x4 + 1))]) C dX0_barsShown_33 rfl rfl hv4_5 rfl ?_
        obtain ⟨v4_5, ev4_5⟩ : ∃ z, z = x4 + 1 := ⟨_, rfl⟩
        rw [← ev4_5]
        have hJ := hJ v4_5 ev4_5
        refine zq_goto (tgt := 5) C dX0_barsShown_36 rfl ?_
        exact hK5 _ hJ
      · have hJ := hJ.2 h9
        refine zq_iconst (x := 1) C dX0_barsShown_26 rfl ik_1 ?_
        refine zq_goto (tgt := 31) C dX0_barsShown_27 rfl ?_
        obtain ⟨h6, hJ⟩ := hJ
        refine zq_iadd C dX0_barsShown_31 h6 ?_
        refine zq_istoreN_n (i := 3) C (fun v => [some (zr b), some (zi a1), some (zi a2), some (zi v), some (zi x4)]) dX0_barsShown_32 rfl (Nat.le_of_ble_eq_true rfl) (fun _ => rfl) (fun v3_7 hv3_7 => ?_)
        have hJ := hJ v3_7 hv3_7
        obtain ⟨hv4_8, hJ⟩ := hJ
        refine zq_iinc (y := x4 + 1) (lv' := [some (zr b), some (zi a1), some (zi a2), some (zi v3_7), some (zi (x4 + 1))]) C dX0_barsShown_33 rfl rfl hv4_8 rfl ?_
        obtain ⟨v4_8, ev4_8⟩ : ∃ z, z = x4 + 1 := ⟨_, rfl⟩
        rw [← ev4_8]
        have hJ := hJ v4_8 ev4_8
        refine zq_goto (tgt := 5) C dX0_barsShown_36 rfl ?_
        exact hK5 _ hJ
  refine zq_iconst (x := 0) C dX0_barsShown_0 rfl ik_0 ?_
  refine zq_istore_n (i := 3) (lv' := [some (zr b), some (zi a1), some (zi a2), some (zi 0), none]) C dX0_barsShown_1 rfl (Nat.le_of_ble_eq_true rfl) rfl ?_
  refine zq_iconst (x := 0) C dX0_barsShown_2 rfl ik_0 ?_
  refine zq_istore (lv' := [some (zr b), some (zi a1), some (zi a2), some (zi 0), some (zi 0)]) C dX0_barsShown_3 (Nat.le_of_ble_eq_true rfl) rfl ?_
  exact hl5 _ hJ
set_option maxRecDepth 100000 in
set_option maxHeartbeats 4000000 in
theorem wC_barsBegun (l : Launch) {b : Nat} (hb : zCh b) (a1 a2 : Int) (M : zM) {Φ : Int → Prop} (hJ : jC_barsBegun b a1 a2 M Φ) : zMet l yX0_barsBegun cX0_barsBegun 5 (some .int) 0 0 shX [zr b, zi a1, zi a2] M (zI (fun z M' => M = M' ∧ Φ z)) := by
  refine zq_enter [some (zr b), some (zi a1), some (zi a2), none, none] (by decide) rfl (Nat.le_of_ble_eq_true rfl) rfl (fun X C => ?_)
  unfold jC_barsBegun at hJ
  have hl5 : ∀ (s : Int × Int), zwh (fun K s => jC_barsBegun_L5 b a1 a2 K Φ M (s.1) (s.2)) s → zG X M 5 [some (zr b), some (zi a1), some (zi a2), some (zi (s.1)), some (zi (s.2))] [] := by
    refine zwh_sound ?_
    intro K5 s hK5 hJ
    obtain ⟨x3, x4⟩ := s
    have hJ : jC_barsBegun_L5 b a1 a2 K5 Φ M x3 x4 := hJ
    show zG X M 5 [some (zr b), some (zi a1), some (zi a2), some (zi x3), some (zi x4)] []
    unfold jC_barsBegun_L5 at hJ
    have hj41 : ∀ (x4 s0 : Int), jC_barsBegun_J41 b a1 a2 K5 Φ x4 s0 M → zG X M 41 [some (zr b), some (zi a1), some (zi a2), none, some (zi x4)] [zi s0] := by
      intro x4 s0 hJ
      unfold jC_barsBegun_J41 at hJ
      refine zq_iconst (x := 0) C dX0_barsBegun_41 rfl ik_0 ?_
      obtain ⟨h2, hJ⟩ := hJ
      refine zq_iadd C dX0_barsBegun_42 h2 ?_
      refine zq_istoreN_n (i := 3) C (fun v => [some (zr b), some (zi a1), some (zi a2), some (zi v), some (zi x4)]) dX0_barsBegun_43 rfl (Nat.le_of_ble_eq_true rfl) (fun _ => rfl) (fun v3_3 hv3_3 => ?_)
      have hJ := hJ v3_3 hv3_3
      obtain ⟨hv4_4, hJ⟩ := hJ
      refine zq_iinc (y := x4 + 1) (lv' := [some (zr b), some (zi a1), some (zi a2), some (zi v3_3), some (zi (x4 + 1))]) C dX0_barsBegun_44 rfl rfl hv4_4 rfl ?_
      obtain ⟨v4_4, ev4_4⟩ : ∃ z, z = x4 + 1 := ⟨_, rfl⟩
      rw [← ev4_4]
      have hJ := hJ v4_4 ev4_4
      refine zq_goto (tgt := 5) C dX0_barsBegun_47 rfl ?_
      exact hK5 _ hJ
    refine zq_iload C dX0_barsBegun_5 rfl ?_
    refine zq_aload_n (i := 0) C dX0_barsBegun_7 rfl rfl ?_
    refine zq_get (kz := 0) C fk_X0_45 (zs0 hb) rfl dX0_barsBegun_8 rfl ?_
    refine zq_icmp_ge (tgt := 50) C dX0_barsBegun_11 rfl (fun h11 => ?_) (fun h11 => ?_)
    · have hJ := hJ.1 h11
      refine zq_iload_n (i := 3) C dX0_barsBegun_50 rfl rfl ?_
      exact zq_iret C rfl ⟨_, rfl, rfl, hJ⟩ dX0_barsBegun_51
    · have hJ := hJ.2 h11
      refine zq_iload_n (i := 3) C dX0_barsBegun_14 rfl rfl ?_
      refine zq_aload_n (i := 0) C dX0_barsBegun_15 rfl rfl ?_
      refine zq_getr C fk_X0_18 (zs0 hb) rfl dX0_barsBegun_16 ?_
      refine zq_iload C dX0_barsBegun_19 rfl ?_
      obtain ⟨h1, h1', hJ⟩ := hJ
      refine zq_iald C (zs3 hb) h1 h1' dX0_barsBegun_21 ?_
      refine zq_iload_n (i := 1) C dX0_barsBegun_22 rfl rfl ?_
      refine zq_icmp_lt (tgt := 41) C dX0_barsBegun_23 rfl (fun h10 => ?_) (fun h10 => ?_)
      · have hJ := hJ.1 h10
        refine zq_weak [some (zr b), some (zi a1), some (zi a2), none, some (zi x4)] ⟨Or.inr rfl, Or.inr rfl, Or.inr rfl, Or.inl rfl, Or.inr rfl, trivial⟩ ?_
        exact hj41 _ _ hJ
      · have hJ := hJ.2 h10
        refine zq_aload_n (i := 0) C dX0_barsBegun_26 rfl rfl ?_
        refine zq_getr C fk_X0_18 (zs0 hb) rfl dX0_barsBegun_27 ?_
        refine zq_iload C dX0_barsBegun_30 rfl ?_
        obtain ⟨h5, h5', hJ⟩ := hJ
        refine zq_iald C (zs3 hb) h5 h5' dX0_barsBegun_32 ?_
        refine zq_iload_n (i := 2) C dX0_barsBegun_33 rfl rfl ?_
        refine zq_icmp_ge (tgt := 41) C dX0_barsBegun_34 rfl (fun h9 => ?_) (fun h9 => ?_)
        · have hJ := hJ.1 h9
          refine zq_weak [some (zr b), some (zi a1), some (zi a2), none, some (zi x4)] ⟨Or.inr rfl, Or.inr rfl, Or.inr rfl, Or.inl rfl, Or.inr rfl, trivial⟩ ?_
          exact hj41 _ _ hJ
        · have hJ := hJ.2 h9
          refine zq_iconst (x := 1) C dX0_barsBegun_37 rfl ik_1 ?_
          refine zq_goto (tgt := 42) C dX0_barsBegun_38 rfl ?_
          obtain ⟨h6, hJ⟩ := hJ
          refine zq_iadd C dX0_barsBegun_42 h6 ?_
          refine zq_istoreN_n (i := 3) C (fun v => [some (zr b), some (zi a1), some (zi a2), some (zi v), some (zi x4)]) dX0_barsBegun_43 rfl (Nat.le_of_ble_eq_true rfl) (fun _ => rfl) (fun v3_7 hv3_7 => ?_)
          have hJ := hJ v3_7 hv3_7
          obtain ⟨hv4_8, hJ⟩ := hJ
          refine zq_iinc (y := x4 + 1) (lv' := [some (zr b), some (zi a1), some (zi a2), some (zi v3_7), some (zi (x4 + 1))]) C dX0_barsBegun_44 rfl rfl hv4_8 rfl ?_
          obtain ⟨v4_8, ev4_8⟩ : ∃ z, z = x4 + 1 := ⟨_, rfl⟩
          rw [← ev4_8]
          have hJ := hJ v4_8 ev4_8
          refine zq_goto (tgt := 5) C dX0_barsBegun_47 rfl ?_
          exact hK5 _ hJ
  refine zq_iconst (x := 0) C dX0_barsBegun_0 rfl ik_0 ?_
  refine zq_istore_n (i := 3) (lv' := [some (zr b), some (zi a1), some (zi a2), some (zi 0), none]) C dX0_barsBegun_1 rfl (Nat.le_of_ble_eq_true rfl) rfl ?_
  refine zq_iconst (x := 0) C dX0_barsBegun_2 rfl ik_0 ?_
  refine zq_istore (lv' := [some (zr b), some (zi a1), some (zi a2), some (zi 0), some (zi 0)]) C dX0_barsBegun_3 (Nat.le_of_ble_eq_true rfl) rfl ?_
  exact hl5 _ hJ
set_option maxRecDepth 100000 in
set_option maxHeartbeats 4000000 in
theorem wB_strip (l : Launch) (a1 a2 : Int) (M : zM) {Φ : Int → zM → Prop} (hJ : jB_strip a1 a2 M Φ) : zMet l yX7_strip cX7_strip 5 (some .int) 3 68 shX [zr 70, zi a1, zi a2] M (zI Φ) := by
  refine zq_enter [some (zr 70), some (zi a1), some (zi a2), none, none] (by decide) rfl (Nat.le_of_ble_eq_true rfl) rfl (fun X C => ?_)
  unfold jB_strip at hJ
  refine zq_iload_n (i := 1) C dX7_strip_0 rfl rfl ?_
  refine zq_if_lt (tgt := 13) C dX7_strip_1 rfl (fun h17 => ?_) (fun h17 => ?_)
  · have hJ := hJ.1 h17
    refine zq_bipush (x := (-2)) C dX7_strip_13 bi_m2 ik_m2 ?_
    exact zq_iret C rfl ⟨_, rfl, hJ⟩ dX7_strip_15
  · have hJ := hJ.2 h17
    refine zq_iload_n (i := 2) C dX7_strip_4 rfl rfl ?_
    refine zq_if_lt (tgt := 13) C dX7_strip_5 rfl (fun h16 => ?_) (fun h16 => ?_)
    · have hJ := hJ.1 h16
      refine zq_bipush (x := (-2)) C dX7_strip_13 bi_m2 ik_m2 ?_
      exact zq_iret C rfl ⟨_, rfl, hJ⟩ dX7_strip_15
    · have hJ := hJ.2 h16
      refine zq_iload_n (i := 2) C dX7_strip_8 rfl rfl ?_
      refine zq_iconst (x := 4) C dX7_strip_9 rfl ik_4 ?_
      refine zq_icmp_le (tgt := 16) C dX7_strip_10 rfl (fun h15 => ?_) (fun h15 => ?_)
      · have hJ := hJ.1 h15
        refine zq_aload_n (i := 0) C dX7_strip_16 rfl rfl ?_
        refine zq_getr C fk_X7_53 sx70 rfl dX7_strip_17 ?_
        refine zq_aload_n (i := 0) C dX7_strip_20 rfl rfl ?_
        refine zq_getr C fk_X7_10 sx70 rfl dX7_strip_21 ?_
        refine zq_callVv C [zr 0] (wK_cut l zch0 _  hJ) ck_X7_244 iv_X1_cut rfl sx85 rfl rfl rfl rfl rfl rfl dX7_strip_24 (fun M1 hJ => ?_)
        refine zq_iload_n (i := 1) C dX7_strip_27 rfl rfl ?_
        refine zq_aload_n (i := 0) C dX7_strip_28 rfl rfl ?_
        refine zq_getr C fk_X7_53 sx70 rfl dX7_strip_29 ?_
        refine zq_get (kz := 0) C fk_X7_247 sx85 rfl dX7_strip_32 rfl ?_
        refine zq_icmp_lt (tgt := 41) C dX7_strip_35 rfl (fun h14 => ?_) (fun h14 => ?_)
        · have hJ := hJ.1 h14
          refine zq_aload_n (i := 0) C dX7_strip_41 rfl rfl ?_
          refine zq_getr C fk_X7_53 sx70 rfl dX7_strip_42 ?_
          refine zq_getr C fk_X7_250 sx85 rfl dX7_strip_45 ?_
          refine zq_iload_n (i := 1) C dX7_strip_48 rfl rfl ?_
          obtain ⟨h2, h2', hJ⟩ := hJ
          refine zq_iald C sx86 h2 h2' dX7_strip_49 ?_
          refine zq_istoreN_n (i := 3) C (fun v => [some (zr 70), some (zi a1), some (zi a2), some (zi v), none]) dX7_strip_50 rfl (Nat.le_of_ble_eq_true rfl) (fun _ => rfl) (fun v3_3 hv3_3 => ?_)
          have hJ := hJ v3_3 hv3_3
          refine zq_aload_n (i := 0) C dX7_strip_51 rfl rfl ?_
          refine zq_getr C fk_X7_53 sx70 rfl dX7_strip_52 ?_
          refine zq_getr C fk_X7_250 sx85 rfl dX7_strip_55 ?_
          refine zq_iload_n (i := 1) C dX7_strip_58 rfl rfl ?_
          refine zq_iconst (x := 1) C dX7_strip_59 rfl ik_1 ?_
          obtain ⟨h4, hJ⟩ := hJ
          refine zq_iadd C dX7_strip_60 h4 ?_
          obtain ⟨h5, h5', hJ⟩ := hJ
          refine zq_iald C sx86 h5 h5' dX7_strip_61 ?_
          refine zq_istoreN C (fun v => [some (zr 70), some (zi a1), some (zi a2), some (zi v3_3), some (zi v)]) dX7_strip_62 (Nat.le_of_ble_eq_true rfl) (fun _ => rfl) (fun v4_6 hv4_6 => ?_)
          have hJ := hJ v4_6 hv4_6
          refine zq_iload_n (i := 2) C dX7_strip_64 rfl rfl ?_
          by_cases g0 : a2 = 0
          · have hJ := hJ.1 g0
            refine zq_tabIn (tgt := 96) C dX7_strip_65 (by rw [g0]; decide) (by rw [g0]; decide) (by rw [g0]; rfl) rfl ?_
            refine zq_iload_n (i := 3) C dX7_strip_96 rfl rfl ?_
            exact zq_iret C rfl ⟨_, rfl, hJ⟩ dX7_strip_97
          have hJ := hJ.2 g0
          by_cases g1 : a2 = 1
          · have hJ := hJ.1 g1
            refine zq_tabIn (tgt := 98) C dX7_strip_65 (by rw [g1]; decide) (by rw [g1]; decide) (by rw [g1]; rfl) rfl ?_
            refine zq_iload C dX7_strip_98 rfl ?_
            refine zq_iload_n (i := 3) C dX7_strip_100 rfl rfl ?_
            obtain ⟨h7, hJ⟩ := hJ
            refine zq_isub C dX7_strip_101 h7 ?_
            exact zq_iret C rfl ⟨_, rfl, hJ⟩ dX7_strip_102
          have hJ := hJ.2 g1
          by_cases g2 : a2 = 2
          · have hJ := hJ.1 g2
            refine zq_tabIn (tgt := 103) C dX7_strip_65 (by rw [g2]; decide) (by rw [g2]; decide) (by rw [g2]; rfl) rfl ?_
            refine zq_aload_n (i := 0) C dX7_strip_103 rfl rfl ?_
            refine zq_getr C fk_X7_10 sx70 rfl dX7_strip_104 ?_
            refine zq_iload_n (i := 3) C dX7_strip_107 rfl rfl ?_
            refine zq_iload C dX7_strip_108 rfl ?_
            refine zq_callVi C [zi v3_3, zi v4_6] (wC_widthBetween l zch0 _ _ _  hJ) ck_X7_205 iv_X0_widthBetween rfl sx0 rfl rfl rfl rfl rfl rfl dX7_strip_110 (fun r8 N9 hN9 => ?_)
            obtain ⟨rfl, hJ⟩ := hN9
            exact zq_iret C rfl ⟨_, rfl, hJ⟩ dX7_strip_113
          have hJ := hJ.2 g2
          by_cases g3 : a2 = 3
          · have hJ := hJ.1 g3
            refine zq_tabIn (tgt := 114) C dX7_strip_65 (by rw [g3]; decide) (by rw [g3]; decide) (by rw [g3]; rfl) rfl ?_
            refine zq_aload_n (i := 0) C dX7_strip_114 rfl rfl ?_
            refine zq_getr C fk_X7_10 sx70 rfl dX7_strip_115 ?_
            refine zq_iload_n (i := 3) C dX7_strip_118 rfl rfl ?_
            refine zq_iload C dX7_strip_119 rfl ?_
            refine zq_callVi C [zi v3_3, zi v4_6] (wC_barsShown l zch0 _ _ _  hJ) ck_X7_253 iv_X0_barsShown rfl sx0 rfl rfl rfl rfl rfl rfl dX7_strip_121 (fun r10 N11 hN11 => ?_)
            obtain ⟨rfl, hJ⟩ := hN11
            exact zq_iret C rfl ⟨_, rfl, hJ⟩ dX7_strip_124
          have hJ := hJ.2 g3
          refine zq_tabOut (tgt := 125) C dX7_strip_65 (zto4 g0 g1 g2 g3) rfl ?_
          refine zq_aload_n (i := 0) C dX7_strip_125 rfl rfl ?_
          refine zq_getr C fk_X7_10 sx70 rfl dX7_strip_126 ?_
          refine zq_iload_n (i := 3) C dX7_strip_129 rfl rfl ?_
          refine zq_iload C dX7_strip_130 rfl ?_
          refine zq_callVi C [zi v3_3, zi v4_6] (wC_barsBegun l zch0 _ _ _  hJ) ck_X7_256 iv_X0_barsBegun rfl sx0 rfl rfl rfl rfl rfl rfl dX7_strip_132 (fun r12 N13 hN13 => ?_)
          obtain ⟨rfl, hJ⟩ := hN13
          exact zq_iret C rfl ⟨_, rfl, hJ⟩ dX7_strip_135
        · have hJ := hJ.2 h14
          refine zq_bipush (x := (-5)) C dX7_strip_38 bi_m5 ik_m5 ?_
          exact zq_iret C rfl ⟨_, rfl, hJ⟩ dX7_strip_40
      · have hJ := hJ.2 h15
        refine zq_bipush (x := (-2)) C dX7_strip_13 bi_m2 ik_m2 ?_
        exact zq_iret C rfl ⟨_, rfl, hJ⟩ dX7_strip_15
set_option maxRecDepth 100000 in
set_option maxHeartbeats 4000000 in
theorem wB_undrawnArrows (l : Launch)  (M : zM) {Φ : Int → zM → Prop} (hJ : jB_undrawnArrows  M Φ) : zMet l yX7_undrawnArrows cX7_undrawnArrows 1 (some .int) 4 96 shX [zr 70] M (zI Φ) := by
  refine zq_enter [some (zr 70)] (by decide) rfl (Nat.le_of_ble_eq_true rfl) rfl (fun X C => ?_)
  unfold jB_undrawnArrows at hJ
  refine zq_aload_n (i := 0) C dX7_undrawnArrows_0 rfl rfl ?_
  refine zq_getr C fk_X7_46 sx70 rfl dX7_undrawnArrows_1 ?_
  refine zq_aload_n (i := 0) C dX7_undrawnArrows_4 rfl rfl ?_
  refine zq_getr C fk_X7_10 sx70 rfl dX7_undrawnArrows_5 ?_
  refine zq_callVv C [zr 0] (wD_draw l zch0 _  hJ) ck_X7_131 iv_X2_draw rfl sx82 rfl rfl rfl rfl rfl rfl dX7_undrawnArrows_8 (fun M1 hJ => ?_)
  refine zq_aload_n (i := 0) C dX7_undrawnArrows_11 rfl rfl ?_
  refine zq_getr C fk_X7_46 sx70 rfl dX7_undrawnArrows_12 ?_
  refine zq_get (kz := 1) C fk_X7_134 sx82 rfl dX7_undrawnArrows_15 rfl ?_
  exact zq_iret C rfl ⟨_, rfl, hJ⟩ dX7_undrawnArrows_18
set_option maxRecDepth 100000 in
set_option maxHeartbeats 4000000 in
theorem wC_lateArrows (l : Launch) {b : Nat} (hb : zCh b)  (M : zM) {Φ : Int → Prop} (hJ : jC_lateArrows b M Φ) : zMet l yX0_lateArrows cX0_lateArrows 3 (some .int) 2 42 shX [zr b] M (zI (fun z M' => M = M' ∧ Φ z)) := by
  refine zq_enter [some (zr b), none, none] (by decide) rfl (Nat.le_of_ble_eq_true rfl) rfl (fun X C => ?_)
  unfold jC_lateArrows at hJ
  have hl4 : ∀ (s : Int × Int), zwh (fun K s => jC_lateArrows_L4 b K Φ M (s.1) (s.2)) s → zG X M 4 [some (zr b), some (zi (s.1)), some (zi (s.2))] [] := by
    refine zwh_sound ?_
    intro K4 s hK4 hJ
    obtain ⟨x1, x2⟩ := s
    have hJ : jC_lateArrows_L4 b K4 Φ M x1 x2 := hJ
    show zG X M 4 [some (zr b), some (zi x1), some (zi x2)] []
    unfold jC_lateArrows_L4 at hJ
    refine zq_iload_n (i := 2) C dX0_lateArrows_4 rfl rfl ?_
    refine zq_aload_n (i := 0) C dX0_lateArrows_5 rfl rfl ?_
    refine zq_get (kz := 6) C fk_X0_58 (zs0 hb) rfl dX0_lateArrows_6 rfl ?_
    refine zq_icmp_ge (tgt := 34) C dX0_lateArrows_9 rfl (fun h10 => ?_) (fun h10 => ?_)
    · have hJ := hJ.1 h10
      refine zq_iload_n (i := 1) C dX0_lateArrows_34 rfl rfl ?_
      exact zq_iret C rfl ⟨_, rfl, rfl, hJ⟩ dX0_lateArrows_35
    · have hJ := hJ.2 h10
      refine zq_iload_n (i := 1) C dX0_lateArrows_12 rfl rfl ?_
      refine zq_aload_n (i := 0) C dX0_lateArrows_13 rfl rfl ?_
      refine zq_iload_n (i := 2) C dX0_lateArrows_14 rfl rfl ?_
      refine zq_callVi C [zi x2] (wC_lateBy l hb _ _  hJ) ck_X0_118 iv_X0_lateBy rfl (zs0 hb) rfl rfl rfl rfl rfl rfl dX0_lateArrows_15 (fun r1 N2 hN2 => ?_)
      obtain ⟨rfl, hJ⟩ := hN2
      refine zq_if_le (tgt := 25) C dX0_lateArrows_18 rfl (fun h9 => ?_) (fun h9 => ?_)
      · have hJ := hJ.1 h9
        refine zq_iconst (x := 0) C dX0_lateArrows_25 rfl ik_0 ?_
        obtain ⟨h3, hJ⟩ := hJ
        refine zq_iadd C dX0_lateArrows_26 h3 ?_
        refine zq_istoreN_n (i := 1) C (fun v => [some (zr b), some (zi v), some (zi x2)]) dX0_lateArrows_27 rfl (Nat.le_of_ble_eq_true rfl) (fun _ => rfl) (fun v1_4 hv1_4 => ?_)
        have hJ := hJ v1_4 hv1_4
        obtain ⟨hv2_5, hJ⟩ := hJ
        refine zq_iinc (y := x2 + 1) (lv' := [some (zr b), some (zi v1_4), some (zi (x2 + 1))]) C dX0_lateArrows_28 rfl rfl hv2_5 rfl ?_
        obtain ⟨v2_5, ev2_5⟩ : ∃ z, z = x2 + 1 := ⟨_, rfl⟩
        rw [← ev2_5]
        have hJ := hJ v2_5 ev2_5
        refine zq_goto (tgt := 4) C dX0_lateArrows_31 rfl ?_
        exact hK4 _ hJ
      · have hJ := hJ.2 h9
        refine zq_iconst (x := 1) C dX0_lateArrows_21 rfl ik_1 ?_
        refine zq_goto (tgt := 26) C dX0_lateArrows_22 rfl ?_
        obtain ⟨h6, hJ⟩ := hJ
        refine zq_iadd C dX0_lateArrows_26 h6 ?_
        refine zq_istoreN_n (i := 1) C (fun v => [some (zr b), some (zi v), some (zi x2)]) dX0_lateArrows_27 rfl (Nat.le_of_ble_eq_true rfl) (fun _ => rfl) (fun v1_7 hv1_7 => ?_)
        have hJ := hJ v1_7 hv1_7
        obtain ⟨hv2_8, hJ⟩ := hJ
        refine zq_iinc (y := x2 + 1) (lv' := [some (zr b), some (zi v1_7), some (zi (x2 + 1))]) C dX0_lateArrows_28 rfl rfl hv2_8 rfl ?_
        obtain ⟨v2_8, ev2_8⟩ : ∃ z, z = x2 + 1 := ⟨_, rfl⟩
        rw [← ev2_8]
        have hJ := hJ v2_8 ev2_8
        refine zq_goto (tgt := 4) C dX0_lateArrows_31 rfl ?_
        exact hK4 _ hJ
  refine zq_iconst (x := 0) C dX0_lateArrows_0 rfl ik_0 ?_
  refine zq_istore_n (i := 1) (lv' := [some (zr b), some (zi 0), none]) C dX0_lateArrows_1 rfl (Nat.le_of_ble_eq_true rfl) rfl ?_
  refine zq_iconst (x := 0) C dX0_lateArrows_2 rfl ik_0 ?_
  refine zq_istore_n (i := 2) (lv' := [some (zr b), some (zi 0), some (zi 0)]) C dX0_lateArrows_3 rfl (Nat.le_of_ble_eq_true rfl) rfl ?_
  exact hl4 _ hJ
