set_option maxRecDepth 100000 in
set_option maxHeartbeats 4000000 in
theorem wC_copyFrom (l : Launch) {b : Nat} (hb : zCh b) {c1 : Nat} (hc1 : zCh c1)  (M : zM) {Φ : zM → Prop} (hJ : jC_copyFrom b c1 M Φ) : zMet l yX0_copyFrom cX0_copyFrom 2 none 1 18 shX [zr b, zr c1] M (zU Φ) := by
  refine zq_enter [some (zr b), some (zr c1)] (by decide) rfl (Nat.le_of_ble_eq_true rfl) rfl (fun X C => ?_)
  unfold jC_copyFrom at hJ
  refine zq_aload_n (i := 0) C dX0_copyFrom_0 rfl rfl ?_
  refine zq_aload_n (i := 1) C dX0_copyFrom_1 rfl rfl ?_
  refine zq_get (kz := 0) C fk_X0_45 (zs0 hc1) rfl dX0_copyFrom_2 rfl ?_
  refine zq_put (kz := 0) C fk_X0_45 (zs0 hb) rfl dX0_copyFrom_5 rfl (fun M1 hM1 => ?_)
  have hJ := hJ M1 hM1
  refine zq_aload_n (i := 0) C dX0_copyFrom_8 rfl rfl ?_
  refine zq_aload_n (i := 1) C dX0_copyFrom_9 rfl rfl ?_
  refine zq_get (kz := 1) C fk_X0_49 (zs0 hc1) rfl dX0_copyFrom_10 rfl ?_
  refine zq_put (kz := 1) C fk_X0_49 (zs0 hb) rfl dX0_copyFrom_13 rfl (fun M2 hM2 => ?_)
  have hJ := hJ M2 hM2
  refine zq_aload_n (i := 1) C dX0_copyFrom_16 rfl rfl ?_
  refine zq_getr C fk_X0_9 (zs0 hc1) rfl dX0_copyFrom_17 ?_
  refine zq_iconst (x := 0) C dX0_copyFrom_20 rfl ik_0 ?_
  refine zq_aload_n (i := 0) C dX0_copyFrom_21 rfl rfl ?_
  refine zq_getr C fk_X0_9 (zs0 hb) rfl dX0_copyFrom_22 ?_
  refine zq_iconst (x := 0) C dX0_copyFrom_25 rfl ik_0 ?_
  refine zq_bipush (x := 30) C dX0_copyFrom_26 bi_30 ik_30 ?_
  refine zq_copy C ak_X0_52 (zs1 hc1) (zs1 hb) (by decide) (by decide) (by decide) (by decide) (by decide) rfl rfl ⟨Nat.le_of_ble_eq_true rfl, Nat.le_of_ble_eq_true rfl⟩ dX0_copyFrom_28 (fun M3 hM3 => ?_)
  have hJ := hJ M3 hM3
  refine zq_aload_n (i := 1) C dX0_copyFrom_31 rfl rfl ?_
  refine zq_getr C fk_X0_15 (zs0 hc1) rfl dX0_copyFrom_32 ?_
  refine zq_iconst (x := 0) C dX0_copyFrom_35 rfl ik_0 ?_
  refine zq_aload_n (i := 0) C dX0_copyFrom_36 rfl rfl ?_
  refine zq_getr C fk_X0_15 (zs0 hb) rfl dX0_copyFrom_37 ?_
  refine zq_iconst (x := 0) C dX0_copyFrom_40 rfl ik_0 ?_
  refine zq_bipush (x := 30) C dX0_copyFrom_41 bi_30 ik_30 ?_
  refine zq_copy C ak_X0_52 (zs2 hc1) (zs2 hb) (by decide) (by decide) (by decide) (by decide) (by decide) rfl rfl ⟨Nat.le_of_ble_eq_true rfl, Nat.le_of_ble_eq_true rfl⟩ dX0_copyFrom_43 (fun M4 hM4 => ?_)
  have hJ := hJ M4 hM4
  refine zq_aload_n (i := 1) C dX0_copyFrom_46 rfl rfl ?_
  refine zq_getr C fk_X0_18 (zs0 hc1) rfl dX0_copyFrom_47 ?_
  refine zq_iconst (x := 0) C dX0_copyFrom_50 rfl ik_0 ?_
  refine zq_aload_n (i := 0) C dX0_copyFrom_51 rfl rfl ?_
  refine zq_getr C fk_X0_18 (zs0 hb) rfl dX0_copyFrom_52 ?_
  refine zq_iconst (x := 0) C dX0_copyFrom_55 rfl ik_0 ?_
  refine zq_bipush (x := 30) C dX0_copyFrom_56 bi_30 ik_30 ?_
  refine zq_copy C ak_X0_52 (zs3 hc1) (zs3 hb) (by decide) (by decide) (by decide) (by decide) (by decide) rfl rfl ⟨Nat.le_of_ble_eq_true rfl, Nat.le_of_ble_eq_true rfl⟩ dX0_copyFrom_58 (fun M5 hM5 => ?_)
  have hJ := hJ M5 hM5
  refine zq_aload_n (i := 1) C dX0_copyFrom_61 rfl rfl ?_
  refine zq_getr C fk_X0_21 (zs0 hc1) rfl dX0_copyFrom_62 ?_
  refine zq_iconst (x := 0) C dX0_copyFrom_65 rfl ik_0 ?_
  refine zq_aload_n (i := 0) C dX0_copyFrom_66 rfl rfl ?_
  refine zq_getr C fk_X0_21 (zs0 hb) rfl dX0_copyFrom_67 ?_
  refine zq_iconst (x := 0) C dX0_copyFrom_70 rfl ik_0 ?_
  refine zq_bipush (x := 30) C dX0_copyFrom_71 bi_30 ik_30 ?_
  refine zq_copy C ak_X0_52 (zs4 hc1) (zs4 hb) (by decide) (by decide) (by decide) (by decide) (by decide) rfl rfl ⟨Nat.le_of_ble_eq_true rfl, Nat.le_of_ble_eq_true rfl⟩ dX0_copyFrom_73 (fun M6 hM6 => ?_)
  have hJ := hJ M6 hM6
  refine zq_aload_n (i := 0) C dX0_copyFrom_76 rfl rfl ?_
  refine zq_aload_n (i := 1) C dX0_copyFrom_77 rfl rfl ?_
  refine zq_get (kz := 6) C fk_X0_58 (zs0 hc1) rfl dX0_copyFrom_78 rfl ?_
  refine zq_put (kz := 6) C fk_X0_58 (zs0 hb) rfl dX0_copyFrom_81 rfl (fun M7 hM7 => ?_)
  have hJ := hJ M7 hM7
  refine zq_aload_n (i := 0) C dX0_copyFrom_84 rfl rfl ?_
  refine zq_aload_n (i := 1) C dX0_copyFrom_85 rfl rfl ?_
  refine zq_get (kz := 7) C fk_X0_61 (zs0 hc1) rfl dX0_copyFrom_86 rfl ?_
  refine zq_put (kz := 7) C fk_X0_61 (zs0 hb) rfl dX0_copyFrom_89 rfl (fun M8 hM8 => ?_)
  have hJ := hJ M8 hM8
  refine zq_aload_n (i := 1) C dX0_copyFrom_92 rfl rfl ?_
  refine zq_getr C fk_X0_24 (zs0 hc1) rfl dX0_copyFrom_93 ?_
  refine zq_iconst (x := 0) C dX0_copyFrom_96 rfl ik_0 ?_
  refine zq_aload_n (i := 0) C dX0_copyFrom_97 rfl rfl ?_
  refine zq_getr C fk_X0_24 (zs0 hb) rfl dX0_copyFrom_98 ?_
  refine zq_iconst (x := 0) C dX0_copyFrom_101 rfl ik_0 ?_
  refine zq_bipush (x := 40) C dX0_copyFrom_102 bi_40 ik_40 ?_
  refine zq_copy C ak_X0_52 (zs5 hc1) (zs5 hb) (by decide) (by decide) (by decide) (by decide) (by decide) rfl rfl ⟨Nat.le_of_ble_eq_true rfl, Nat.le_of_ble_eq_true rfl⟩ dX0_copyFrom_104 (fun M9 hM9 => ?_)
  have hJ := hJ M9 hM9
  refine zq_aload_n (i := 1) C dX0_copyFrom_107 rfl rfl ?_
  refine zq_getr C fk_X0_27 (zs0 hc1) rfl dX0_copyFrom_108 ?_
  refine zq_iconst (x := 0) C dX0_copyFrom_111 rfl ik_0 ?_
  refine zq_aload_n (i := 0) C dX0_copyFrom_112 rfl rfl ?_
  refine zq_getr C fk_X0_27 (zs0 hb) rfl dX0_copyFrom_113 ?_
  refine zq_iconst (x := 0) C dX0_copyFrom_116 rfl ik_0 ?_
  refine zq_bipush (x := 40) C dX0_copyFrom_117 bi_40 ik_40 ?_
  refine zq_copy C ak_X0_52 (zs6 hc1) (zs6 hb) (by decide) (by decide) (by decide) (by decide) (by decide) rfl rfl ⟨Nat.le_of_ble_eq_true rfl, Nat.le_of_ble_eq_true rfl⟩ dX0_copyFrom_119 (fun M10 hM10 => ?_)
  have hJ := hJ M10 hM10
  refine zq_aload_n (i := 1) C dX0_copyFrom_122 rfl rfl ?_
  refine zq_getr C fk_X0_30 (zs0 hc1) rfl dX0_copyFrom_123 ?_
  refine zq_iconst (x := 0) C dX0_copyFrom_126 rfl ik_0 ?_
  refine zq_aload_n (i := 0) C dX0_copyFrom_127 rfl rfl ?_
  refine zq_getr C fk_X0_30 (zs0 hb) rfl dX0_copyFrom_128 ?_
  refine zq_iconst (x := 0) C dX0_copyFrom_131 rfl ik_0 ?_
  refine zq_bipush (x := 40) C dX0_copyFrom_132 bi_40 ik_40 ?_
  refine zq_copy C ak_X0_52 (zs7 hc1) (zs7 hb) (by decide) (by decide) (by decide) (by decide) (by decide) rfl rfl ⟨Nat.le_of_ble_eq_true rfl, Nat.le_of_ble_eq_true rfl⟩ dX0_copyFrom_134 (fun M11 hM11 => ?_)
  have hJ := hJ M11 hM11
  refine zq_aload_n (i := 1) C dX0_copyFrom_137 rfl rfl ?_
  refine zq_getr C fk_X0_33 (zs0 hc1) rfl dX0_copyFrom_138 ?_
  refine zq_iconst (x := 0) C dX0_copyFrom_141 rfl ik_0 ?_
  refine zq_aload_n (i := 0) C dX0_copyFrom_142 rfl rfl ?_
  refine zq_getr C fk_X0_33 (zs0 hb) rfl dX0_copyFrom_143 ?_
  refine zq_iconst (x := 0) C dX0_copyFrom_146 rfl ik_0 ?_
  refine zq_sipush (x := 200) C dX0_copyFrom_147 si_200 ik_200 ?_
  refine zq_copy C ak_X0_52 (zs8 hc1) (zs8 hb) (by decide) (by decide) (by decide) (by decide) (by decide) rfl rfl ⟨Nat.le_of_ble_eq_true rfl, Nat.le_of_ble_eq_true rfl⟩ dX0_copyFrom_150 (fun M12 hM12 => ?_)
  have hJ := hJ M12 hM12
  refine zq_aload_n (i := 1) C dX0_copyFrom_153 rfl rfl ?_
  refine zq_getr C fk_X0_36 (zs0 hc1) rfl dX0_copyFrom_154 ?_
  refine zq_iconst (x := 0) C dX0_copyFrom_157 rfl ik_0 ?_
  refine zq_aload_n (i := 0) C dX0_copyFrom_158 rfl rfl ?_
  refine zq_getr C fk_X0_36 (zs0 hb) rfl dX0_copyFrom_159 ?_
  refine zq_iconst (x := 0) C dX0_copyFrom_162 rfl ik_0 ?_
  refine zq_iconst (x := 2) C dX0_copyFrom_163 rfl ik_2 ?_
  refine zq_copy C ak_X0_52 (zs9 hc1) (zs9 hb) (by decide) (by decide) (by decide) (by decide) (by decide) rfl rfl ⟨Nat.le_of_ble_eq_true rfl, Nat.le_of_ble_eq_true rfl⟩ dX0_copyFrom_164 (fun M13 hM13 => ?_)
  have hJ := hJ M13 hM13
  refine zq_aload_n (i := 0) C dX0_copyFrom_167 rfl rfl ?_
  refine zq_aload_n (i := 1) C dX0_copyFrom_168 rfl rfl ?_
  refine zq_get (kz := 13) C fk_X0_64 (zs0 hc1) rfl dX0_copyFrom_169 rfl ?_
  refine zq_put (kz := 13) C fk_X0_64 (zs0 hb) rfl dX0_copyFrom_172 rfl (fun M14 hM14 => ?_)
  have hJ := hJ M14 hM14
  exact zq_vret C rfl hJ dX0_copyFrom_175
set_option maxRecDepth 100000 in
set_option maxHeartbeats 4000000 in
theorem wB_isLane (l : Launch) (a1 : Int) (M : zM) {Φ : Int → Prop} (hJ : jB_isLane a1 M Φ) : zMet l yX7_isLane cX7_isLane 1 (some .boolean) 0 0 shX [zi a1] M (zI (fun z M' => M = M' ∧ Φ z)) := by
  refine zq_enter [some (zi a1)] (by decide) rfl (Nat.le_of_ble_eq_true rfl) rfl (fun X C => ?_)
  unfold jB_isLane at hJ
  refine zq_iload_n (i := 0) C dX7_isLane_0 rfl rfl ?_
  refine zq_if_lt (tgt := 14) C dX7_isLane_1 rfl (fun h2 => ?_) (fun h2 => ?_)
  · have hJ := hJ.1 h2
    refine zq_iconst (x := 0) C dX7_isLane_14 rfl ik_0 ?_
    exact zq_zret C rfl (Or.inl rfl) ⟨_, rfl, rfl, hJ⟩ dX7_isLane_15
  · have hJ := hJ.2 h2
    refine zq_iload_n (i := 0) C dX7_isLane_4 rfl rfl ?_
    refine zq_bipush (x := 12) C dX7_isLane_5 bi_12 ik_12 ?_
    refine zq_icmp_ge (tgt := 14) C dX7_isLane_7 rfl (fun h1 => ?_) (fun h1 => ?_)
    · have hJ := hJ.1 h1
      refine zq_iconst (x := 0) C dX7_isLane_14 rfl ik_0 ?_
      exact zq_zret C rfl (Or.inl rfl) ⟨_, rfl, rfl, hJ⟩ dX7_isLane_15
    · have hJ := hJ.2 h1
      refine zq_iconst (x := 1) C dX7_isLane_10 rfl ik_1 ?_
      refine zq_goto (tgt := 15) C dX7_isLane_11 rfl ?_
      exact zq_zret C rfl (Or.inr rfl) ⟨_, rfl, rfl, hJ⟩ dX7_isLane_15
set_option maxRecDepth 100000 in
set_option maxHeartbeats 4000000 in
theorem wB_isDay (l : Launch) (a1 : Int) (M : zM) {Φ : Int → Prop} (hJ : jB_isDay a1 M Φ) : zMet l yX7_isDay cX7_isDay 1 (some .boolean) 0 0 shX [zi a1] M (zI (fun z M' => M = M' ∧ Φ z)) := by
  refine zq_enter [some (zi a1)] (by decide) rfl (Nat.le_of_ble_eq_true rfl) rfl (fun X C => ?_)
  unfold jB_isDay at hJ
  refine zq_iload_n (i := 0) C dX7_isDay_0 rfl rfl ?_
  refine zq_if_lt (tgt := 15) C dX7_isDay_1 rfl (fun h2 => ?_) (fun h2 => ?_)
  · have hJ := hJ.1 h2
    refine zq_iconst (x := 0) C dX7_isDay_15 rfl ik_0 ?_
    exact zq_zret C rfl (Or.inl rfl) ⟨_, rfl, rfl, hJ⟩ dX7_isDay_16
  · have hJ := hJ.2 h2
    refine zq_iload_n (i := 0) C dX7_isDay_4 rfl rfl ?_
    refine zq_sipush (x := 200) C dX7_isDay_5 si_200 ik_200 ?_
    refine zq_icmp_ge (tgt := 15) C dX7_isDay_8 rfl (fun h1 => ?_) (fun h1 => ?_)
    · have hJ := hJ.1 h1
      refine zq_iconst (x := 0) C dX7_isDay_15 rfl ik_0 ?_
      exact zq_zret C rfl (Or.inl rfl) ⟨_, rfl, rfl, hJ⟩ dX7_isDay_16
    · have hJ := hJ.2 h1
      refine zq_iconst (x := 1) C dX7_isDay_11 rfl ik_1 ?_
      refine zq_goto (tgt := 16) C dX7_isDay_12 rfl ?_
      exact zq_zret C rfl (Or.inr rfl) ⟨_, rfl, rfl, hJ⟩ dX7_isDay_16
set_option maxRecDepth 100000 in
set_option maxHeartbeats 4000000 in
theorem wC_endOf (l : Launch) {b : Nat} (hb : zCh b) (a1 : Int) (M : zM) {Φ : Int → Prop} (hJ : jC_endOf b a1 M Φ) : zMet l yX0_endOf cX0_endOf 2 (some .int) 0 0 shX [zr b, zi a1] M (zI (fun z M' => M = M' ∧ Φ z)) := by
  refine zq_enter [some (zr b), some (zi a1)] (by decide) rfl (Nat.le_of_ble_eq_true rfl) rfl (fun X C => ?_)
  unfold jC_endOf at hJ
  refine zq_aload_n (i := 0) C dX0_endOf_0 rfl rfl ?_
  refine zq_getr C fk_X0_18 (zs0 hb) rfl dX0_endOf_1 ?_
  refine zq_iload_n (i := 1) C dX0_endOf_4 rfl rfl ?_
  obtain ⟨h1, h1', hJ⟩ := hJ
  refine zq_iald C (zs3 hb) h1 h1' dX0_endOf_5 ?_
  refine zq_aload_n (i := 0) C dX0_endOf_6 rfl rfl ?_
  refine zq_getr C fk_X0_21 (zs0 hb) rfl dX0_endOf_7 ?_
  refine zq_iload_n (i := 1) C dX0_endOf_10 rfl rfl ?_
  obtain ⟨h2, h2', hJ⟩ := hJ
  refine zq_iald C (zs4 hb) h2 h2' dX0_endOf_11 ?_
  obtain ⟨h3, hJ⟩ := hJ
  refine zq_iadd C dX0_endOf_12 h3 ?_
  exact zq_iret C rfl ⟨_, rfl, rfl, hJ⟩ dX0_endOf_13
set_option maxRecDepth 100000 in
set_option maxHeartbeats 4000000 in
theorem wC_sharesDays (l : Launch) {b : Nat} (hb : zCh b) (a1 a2 a3 : Int) (M : zM) {Φ : Int → Prop} (hJ : jC_sharesDays b a1 a2 a3 M Φ) : zMet l yX0_sharesDays cX0_sharesDays 4 (some .boolean) 1 21 shX [zr b, zi a1, zi a2, zi a3] M (zI (fun z M' => M = M' ∧ Φ z)) := by
  refine zq_enter [some (zr b), some (zi a1), some (zi a2), some (zi a3)] (by decide) rfl (Nat.le_of_ble_eq_true rfl) rfl (fun X C => ?_)
  unfold jC_sharesDays at hJ
  refine zq_aload_n (i := 0) C dX0_sharesDays_0 rfl rfl ?_
  refine zq_getr C fk_X0_18 (zs0 hb) rfl dX0_sharesDays_1 ?_
  refine zq_iload_n (i := 1) C dX0_sharesDays_4 rfl rfl ?_
  obtain ⟨h1, h1', hJ⟩ := hJ
  refine zq_iald C (zs3 hb) h1 h1' dX0_sharesDays_5 ?_
  refine zq_iload_n (i := 3) C dX0_sharesDays_6 rfl rfl ?_
  refine zq_icmp_ge (tgt := 23) C dX0_sharesDays_7 rfl (fun h5 => ?_) (fun h5 => ?_)
  · have hJ := hJ.1 h5
    refine zq_iconst (x := 0) C dX0_sharesDays_23 rfl ik_0 ?_
    exact zq_zret C rfl (Or.inl rfl) ⟨_, rfl, rfl, hJ⟩ dX0_sharesDays_24
  · have hJ := hJ.2 h5
    refine zq_iload_n (i := 2) C dX0_sharesDays_10 rfl rfl ?_
    refine zq_aload_n (i := 0) C dX0_sharesDays_11 rfl rfl ?_
    refine zq_iload_n (i := 1) C dX0_sharesDays_12 rfl rfl ?_
    refine zq_callVi C [zi a1] (wC_endOf l hb _ _  hJ) ck_X0_97 iv_X0_endOf rfl (zs0 hb) rfl rfl rfl rfl rfl rfl rfl dX0_sharesDays_13 (fun r2 N3 hN3 => ?_)
    obtain ⟨rfl, hJ⟩ := hN3
    refine zq_icmp_ge (tgt := 23) C dX0_sharesDays_16 rfl (fun h4 => ?_) (fun h4 => ?_)
    · have hJ := hJ.1 h4
      refine zq_iconst (x := 0) C dX0_sharesDays_23 rfl ik_0 ?_
      exact zq_zret C rfl (Or.inl rfl) ⟨_, rfl, rfl, hJ⟩ dX0_sharesDays_24
    · have hJ := hJ.2 h4
      refine zq_iconst (x := 1) C dX0_sharesDays_19 rfl ik_1 ?_
      refine zq_goto (tgt := 24) C dX0_sharesDays_20 rfl ?_
      exact zq_zret C rfl (Or.inr rfl) ⟨_, rfl, rfl, hJ⟩ dX0_sharesDays_24
set_option maxRecDepth 100000 in
set_option maxHeartbeats 4000000 in
theorem wC_hasRoom (l : Launch) {b : Nat} (hb : zCh b) (a1 a2 a3 a4 : Int) (M : zM) {Φ : Int → Prop} (hJ : jC_hasRoom b a1 a2 a3 a4 M Φ) : zMet l yX0_hasRoom cX0_hasRoom 6 (some .boolean) 2 44 shX [zr b, zi a1, zi a2, zi a3, zi a4] M (zI (fun z M' => M = M' ∧ Φ z)) := by
  refine zq_enter [some (zr b), some (zi a1), some (zi a2), some (zi a3), some (zi a4), none] (by decide) rfl (Nat.le_of_ble_eq_true rfl) rfl (fun X C => ?_)
  unfold jC_hasRoom at hJ
  have hl3 : ∀ (s : Int), zwh (fun K s => jC_hasRoom_L3 b a1 a2 a3 a4 K Φ M (s)) s → zG X M 3 [some (zr b), some (zi a1), some (zi a2), some (zi a3), some (zi a4), some (zi s)] [] := by
    refine zwh_sound ?_
    intro K3 s hK3 hJ
    obtain ⟨x5, rfl⟩ : ∃ z, z = s := ⟨_, rfl⟩
    have hJ : jC_hasRoom_L3 b a1 a2 a3 a4 K3 Φ M x5 := hJ
    show zG X M 3 [some (zr b), some (zi a1), some (zi a2), some (zi a3), some (zi a4), some (zi x5)] []
    unfold jC_hasRoom_L3 at hJ
    refine zq_iload C dX0_hasRoom_3 rfl ?_
    refine zq_aload_n (i := 0) C dX0_hasRoom_5 rfl rfl ?_
    refine zq_get (kz := 0) C fk_X0_45 (zs0 hb) rfl dX0_hasRoom_6 rfl ?_
    refine zq_icmp_ge (tgt := 51) C dX0_hasRoom_9 rfl (fun h11 => ?_) (fun h11 => ?_)
    · have hJ := hJ.1 h11
      refine zq_iconst (x := 1) C dX0_hasRoom_51 rfl ik_1 ?_
      exact zq_zret C rfl (Or.inr rfl) ⟨_, rfl, rfl, hJ⟩ dX0_hasRoom_52
    · have hJ := hJ.2 h11
      refine zq_iload C dX0_hasRoom_12 rfl ?_
      refine zq_iload C dX0_hasRoom_14 rfl ?_
      refine zq_icmp_eq (tgt := 45) C dX0_hasRoom_16 rfl (fun h10 => ?_) (fun h10 => ?_)
      · have hJ := hJ.1 h10
        obtain ⟨hv5_1, hJ⟩ := hJ
        refine zq_iinc (y := x5 + 1) (lv' := [some (zr b), some (zi a1), some (zi a2), some (zi a3), some (zi a4), some (zi (x5 + 1))]) C dX0_hasRoom_45 rfl rfl hv5_1 rfl ?_
        obtain ⟨v5_1, ev5_1⟩ : ∃ z, z = x5 + 1 := ⟨_, rfl⟩
        rw [← ev5_1]
        have hJ := hJ v5_1 ev5_1
        refine zq_goto (tgt := 3) C dX0_hasRoom_48 rfl ?_
        exact hK3 _ hJ
      · have hJ := hJ.2 h10
        refine zq_aload_n (i := 0) C dX0_hasRoom_19 rfl rfl ?_
        refine zq_getr C fk_X0_15 (zs0 hb) rfl dX0_hasRoom_20 ?_
        refine zq_iload C dX0_hasRoom_23 rfl ?_
        obtain ⟨h2, h2', hJ⟩ := hJ
        refine zq_iald C (zs2 hb) h2 h2' dX0_hasRoom_25 ?_
        refine zq_iload_n (i := 1) C dX0_hasRoom_26 rfl rfl ?_
        refine zq_icmp_ne (tgt := 45) C dX0_hasRoom_27 rfl (fun h9 => ?_) (fun h9 => ?_)
        · have hJ := hJ.1 h9
          obtain ⟨hv5_3, hJ⟩ := hJ
          refine zq_iinc (y := x5 + 1) (lv' := [some (zr b), some (zi a1), some (zi a2), some (zi a3), some (zi a4), some (zi (x5 + 1))]) C dX0_hasRoom_45 rfl rfl hv5_3 rfl ?_
          obtain ⟨v5_3, ev5_3⟩ : ∃ z, z = x5 + 1 := ⟨_, rfl⟩
          rw [← ev5_3]
          have hJ := hJ v5_3 ev5_3
          refine zq_goto (tgt := 3) C dX0_hasRoom_48 rfl ?_
          exact hK3 _ hJ
        · have hJ := hJ.2 h9
          refine zq_aload_n (i := 0) C dX0_hasRoom_30 rfl rfl ?_
          refine zq_iload C dX0_hasRoom_31 rfl ?_
          refine zq_iload_n (i := 2) C dX0_hasRoom_33 rfl rfl ?_
          refine zq_iload_n (i := 2) C dX0_hasRoom_34 rfl rfl ?_
          refine zq_iload_n (i := 3) C dX0_hasRoom_35 rfl rfl ?_
          obtain ⟨h4, hJ⟩ := hJ
          refine zq_iadd C dX0_hasRoom_36 h4 ?_
          refine zq_callVi C [zi x5, zi a2, zi (a2 + a3)] (wC_sharesDays l hb _ _ _ _  hJ) ck_X0_93 iv_X0_sharesDays rfl (zs0 hb) rfl rfl rfl rfl rfl rfl rfl dX0_hasRoom_37 (fun r5 N6 hN6 => ?_)
          obtain ⟨rfl, hJ⟩ := hN6
          refine zq_if_eq (tgt := 45) C dX0_hasRoom_40 rfl (fun h8 => ?_) (fun h8 => ?_)
          · have hJ := hJ.1 h8
            obtain ⟨hv5_7, hJ⟩ := hJ
            refine zq_iinc (y := x5 + 1) (lv' := [some (zr b), some (zi a1), some (zi a2), some (zi a3), some (zi a4), some (zi (x5 + 1))]) C dX0_hasRoom_45 rfl rfl hv5_7 rfl ?_
            obtain ⟨v5_7, ev5_7⟩ : ∃ z, z = x5 + 1 := ⟨_, rfl⟩
            rw [← ev5_7]
            have hJ := hJ v5_7 ev5_7
            refine zq_goto (tgt := 3) C dX0_hasRoom_48 rfl ?_
            exact hK3 _ hJ
          · have hJ := hJ.2 h8
            refine zq_iconst (x := 0) C dX0_hasRoom_43 rfl ik_0 ?_
            exact zq_zret C rfl (Or.inl rfl) ⟨_, rfl, rfl, hJ⟩ dX0_hasRoom_44
  refine zq_iconst (x := 0) C dX0_hasRoom_0 rfl ik_0 ?_
  refine zq_istore (lv' := [some (zr b), some (zi a1), some (zi a2), some (zi a3), some (zi a4), some (zi 0)]) C dX0_hasRoom_1 (Nat.le_of_ble_eq_true rfl) rfl ?_
  exact hl3 _ hJ
set_option maxRecDepth 100000 in
set_option maxHeartbeats 4000000 in
theorem wC_addBar (l : Launch) {b : Nat} (hb : zCh b) (a1 a2 a3 : Int) (M : zM) {Φ : Int → zM → Prop} (hJ : jC_addBar b a1 a2 a3 M Φ) : zMet l yX0_addBar cX0_addBar 4 (some .int) 3 69 shX [zr b, zi a1, zi a2, zi a3] M (zI Φ) := by
  refine zq_enter [some (zr b), some (zi a1), some (zi a2), some (zi a3)] (by decide) rfl (Nat.le_of_ble_eq_true rfl) rfl (fun X C => ?_)
  unfold jC_addBar at hJ
  refine zq_iload_n (i := 1) C dX0_addBar_0 rfl rfl ?_
  refine zq_callSNi C [zi a1] (wB_isLane l _ _  hJ) ck_X0_67 st_X7_isLane rfl rfl rfl rfl rfl rfl rfl dX0_addBar_1 (fun r1 N2 hN2 => ?_)
  obtain ⟨rfl, hJ⟩ := hN2
  refine zq_if_ne (tgt := 9) C dX0_addBar_4 rfl (fun h28 => ?_) (fun h28 => ?_)
  · have hJ := hJ.1 h28
    refine zq_iload_n (i := 2) C dX0_addBar_9 rfl rfl ?_
    refine zq_callSNi C [zi a2] (wB_isDay l _ _  hJ) ck_X0_71 st_X7_isDay rfl rfl rfl rfl rfl rfl rfl dX0_addBar_10 (fun r3 N4 hN4 => ?_)
    obtain ⟨rfl, hJ⟩ := hN4
    refine zq_if_eq (tgt := 36) C dX0_addBar_13 rfl (fun h27 => ?_) (fun h27 => ?_)
    · have hJ := hJ.1 h27
      refine zq_bipush (x := (-2)) C dX0_addBar_36 bi_m2 ik_m2 ?_
      exact zq_iret C rfl ⟨_, rfl, hJ⟩ dX0_addBar_38
    · have hJ := hJ.2 h27
      refine zq_iload_n (i := 3) C dX0_addBar_16 rfl rfl ?_
      refine zq_iconst (x := 1) C dX0_addBar_17 rfl ik_1 ?_
      refine zq_icmp_lt (tgt := 36) C dX0_addBar_18 rfl (fun h26 => ?_) (fun h26 => ?_)
      · have hJ := hJ.1 h26
        refine zq_bipush (x := (-2)) C dX0_addBar_36 bi_m2 ik_m2 ?_
        exact zq_iret C rfl ⟨_, rfl, hJ⟩ dX0_addBar_38
      · have hJ := hJ.2 h26
        refine zq_iload_n (i := 3) C dX0_addBar_21 rfl rfl ?_
        refine zq_bipush (x := 30) C dX0_addBar_22 bi_30 ik_30 ?_
        refine zq_icmp_gt (tgt := 36) C dX0_addBar_24 rfl (fun h25 => ?_) (fun h25 => ?_)
        · have hJ := hJ.1 h25
          refine zq_bipush (x := (-2)) C dX0_addBar_36 bi_m2 ik_m2 ?_
          exact zq_iret C rfl ⟨_, rfl, hJ⟩ dX0_addBar_38
        · have hJ := hJ.2 h25
          refine zq_iload_n (i := 2) C dX0_addBar_27 rfl rfl ?_
          refine zq_iload_n (i := 3) C dX0_addBar_28 rfl rfl ?_
          obtain ⟨h5, hJ⟩ := hJ
          refine zq_iadd C dX0_addBar_29 h5 ?_
          refine zq_sipush (x := 200) C dX0_addBar_30 si_200 ik_200 ?_
          refine zq_icmp_le (tgt := 39) C dX0_addBar_33 rfl (fun h24 => ?_) (fun h24 => ?_)
          · have hJ := hJ.1 h24
            refine zq_aload_n (i := 0) C dX0_addBar_39 rfl rfl ?_
            refine zq_iload_n (i := 1) C dX0_addBar_40 rfl rfl ?_
            refine zq_iload_n (i := 2) C dX0_addBar_41 rfl rfl ?_
            refine zq_iload_n (i := 3) C dX0_addBar_42 rfl rfl ?_
            refine zq_iconst (x := (-1)) C dX0_addBar_43 rfl ik_m1 ?_
            refine zq_callVi C [zi a1, zi a2, zi a3, zi (-1)] (wC_hasRoom l hb _ _ _ _ _  hJ) ck_X0_74 iv_X0_hasRoom rfl (zs0 hb) rfl rfl rfl rfl rfl rfl rfl dX0_addBar_44 (fun r6 N7 hN7 => ?_)
            obtain ⟨rfl, hJ⟩ := hN7
            refine zq_if_ne (tgt := 53) C dX0_addBar_47 rfl (fun h23 => ?_) (fun h23 => ?_)
            · have hJ := hJ.1 h23
              refine zq_aload_n (i := 0) C dX0_addBar_53 rfl rfl ?_
              refine zq_get (kz := 0) C fk_X0_45 (zs0 hb) rfl dX0_addBar_54 rfl ?_
              refine zq_bipush (x := 30) C dX0_addBar_57 bi_30 ik_30 ?_
              refine zq_icmp_ge (tgt := 71) C dX0_addBar_59 rfl (fun h22 => ?_) (fun h22 => ?_)
              · have hJ := hJ.1 h22
                refine zq_bipush (x := (-3)) C dX0_addBar_71 bi_m3 ik_m3 ?_
                exact zq_iret C rfl ⟨_, rfl, hJ⟩ dX0_addBar_73
              · have hJ := hJ.2 h22
                refine zq_aload_n (i := 0) C dX0_addBar_62 rfl rfl ?_
                refine zq_get (kz := 1) C fk_X0_49 (zs0 hb) rfl dX0_addBar_63 rfl ?_
                refine zq_bipush (x := 90) C dX0_addBar_66 bi_90 ik_90 ?_
                refine zq_icmp_lt (tgt := 74) C dX0_addBar_68 rfl (fun h21 => ?_) (fun h21 => ?_)
                · have hJ := hJ.1 h21
                  refine zq_aload_n (i := 0) C dX0_addBar_74 rfl rfl ?_
                  refine zq_getr C fk_X0_9 (zs0 hb) rfl dX0_addBar_75 ?_
                  refine zq_aload_n (i := 0) C dX0_addBar_78 rfl rfl ?_
                  refine zq_get (kz := 0) C fk_X0_45 (zs0 hb) rfl dX0_addBar_79 rfl ?_
                  refine zq_aload_n (i := 0) C dX0_addBar_82 rfl rfl ?_
                  refine zq_get (kz := 1) C fk_X0_49 (zs0 hb) rfl dX0_addBar_83 rfl ?_
                  obtain ⟨h8, h8', hJ⟩ := hJ
                  refine zq_iast C (zs1 hb) h8 h8' dX0_addBar_86 (fun M9 hM9 => ?_)
                  have hJ := hJ M9 hM9
                  refine zq_aload_n (i := 0) C dX0_addBar_87 rfl rfl ?_
                  refine zq_getr C fk_X0_15 (zs0 hb) rfl dX0_addBar_88 ?_
                  refine zq_aload_n (i := 0) C dX0_addBar_91 rfl rfl ?_
                  refine zq_get (kz := 0) C fk_X0_45 (zs0 hb) rfl dX0_addBar_92 rfl ?_
                  refine zq_iload_n (i := 1) C dX0_addBar_95 rfl rfl ?_
                  obtain ⟨h10, h10', hJ⟩ := hJ
                  refine zq_iast C (zs2 hb) h10 h10' dX0_addBar_96 (fun M11 hM11 => ?_)
                  have hJ := hJ M11 hM11
                  refine zq_aload_n (i := 0) C dX0_addBar_97 rfl rfl ?_
                  refine zq_getr C fk_X0_18 (zs0 hb) rfl dX0_addBar_98 ?_
                  refine zq_aload_n (i := 0) C dX0_addBar_101 rfl rfl ?_
                  refine zq_get (kz := 0) C fk_X0_45 (zs0 hb) rfl dX0_addBar_102 rfl ?_
                  refine zq_iload_n (i := 2) C dX0_addBar_105 rfl rfl ?_
                  obtain ⟨h12, h12', hJ⟩ := hJ
                  refine zq_iast C (zs3 hb) h12 h12' dX0_addBar_106 (fun M13 hM13 => ?_)
                  have hJ := hJ M13 hM13
                  refine zq_aload_n (i := 0) C dX0_addBar_107 rfl rfl ?_
                  refine zq_getr C fk_X0_21 (zs0 hb) rfl dX0_addBar_108 ?_
                  refine zq_aload_n (i := 0) C dX0_addBar_111 rfl rfl ?_
                  refine zq_get (kz := 0) C fk_X0_45 (zs0 hb) rfl dX0_addBar_112 rfl ?_
                  refine zq_iload_n (i := 3) C dX0_addBar_115 rfl rfl ?_
                  obtain ⟨h14, h14', hJ⟩ := hJ
                  refine zq_iast C (zs4 hb) h14 h14' dX0_addBar_116 (fun M15 hM15 => ?_)
                  have hJ := hJ M15 hM15
                  refine zq_aload_n (i := 0) C dX0_addBar_117 rfl rfl ?_
                  refine zq_dup C dX0_addBar_118 rfl ?_
                  refine zq_get (kz := 0) C fk_X0_45 (zs0 hb) rfl dX0_addBar_119 rfl ?_
                  refine zq_iconst (x := 1) C dX0_addBar_122 rfl ik_1 ?_
                  obtain ⟨h16, hJ⟩ := hJ
                  refine zq_iadd C dX0_addBar_123 h16 ?_
                  refine zq_put (kz := 0) C fk_X0_45 (zs0 hb) rfl dX0_addBar_124 rfl (fun M17 hM17 => ?_)
                  have hJ := hJ M17 hM17
                  refine zq_aload_n (i := 0) C dX0_addBar_127 rfl rfl ?_
                  refine zq_dup C dX0_addBar_128 rfl ?_
                  refine zq_get (kz := 1) C fk_X0_49 (zs0 hb) rfl dX0_addBar_129 rfl ?_
                  refine zq_iconst (x := 1) C dX0_addBar_132 rfl ik_1 ?_
                  obtain ⟨h18, hJ⟩ := hJ
                  refine zq_iadd C dX0_addBar_133 h18 ?_
                  refine zq_put (kz := 1) C fk_X0_49 (zs0 hb) rfl dX0_addBar_134 rfl (fun M19 hM19 => ?_)
                  have hJ := hJ M19 hM19
                  refine zq_aload_n (i := 0) C dX0_addBar_137 rfl rfl ?_
                  refine zq_get (kz := 1) C fk_X0_49 (zs0 hb) rfl dX0_addBar_138 rfl ?_
                  refine zq_iconst (x := 1) C dX0_addBar_141 rfl ik_1 ?_
                  obtain ⟨h20, hJ⟩ := hJ
                  refine zq_isub C dX0_addBar_142 h20 ?_
                  exact zq_iret C rfl ⟨_, rfl, hJ⟩ dX0_addBar_143
                · have hJ := hJ.2 h21
                  refine zq_bipush (x := (-3)) C dX0_addBar_71 bi_m3 ik_m3 ?_
                  exact zq_iret C rfl ⟨_, rfl, hJ⟩ dX0_addBar_73
            · have hJ := hJ.2 h23
              refine zq_bipush (x := (-4)) C dX0_addBar_50 bi_m4 ik_m4 ?_
              exact zq_iret C rfl ⟨_, rfl, hJ⟩ dX0_addBar_52
          · have hJ := hJ.2 h24
            refine zq_bipush (x := (-2)) C dX0_addBar_36 bi_m2 ik_m2 ?_
            exact zq_iret C rfl ⟨_, rfl, hJ⟩ dX0_addBar_38
  · have hJ := hJ.2 h28
    refine zq_iconst (x := (-1)) C dX0_addBar_7 rfl ik_m1 ?_
    exact zq_iret C rfl ⟨_, rfl, hJ⟩ dX0_addBar_8
set_option maxRecDepth 100000 in
set_option maxHeartbeats 4000000 in
theorem wH_record (l : Launch) {c1 : Nat} (hc1 : zCh c1)  (M : zM) {Φ : zM → Prop} (hJ : jH_record c1 M Φ) : zMet l yX3_record cX3_record 2 none 2 39 shX [zr 71, zr c1] M (zU Φ) := by
  refine zq_enter [some (zr 71), some (zr c1)] (by decide) rfl (Nat.le_of_ble_eq_true rfl) rfl (fun X C => ?_)
  unfold jH_record at hJ
  have hj30 : ∀ (M : zM), jH_record_J30 c1 Φ M → zG X M 30 [some (zr 71), some (zr c1)] [] := by
    intro M hJ
    unfold jH_record_J30 at hJ
    refine zq_aload_n (i := 0) C dX3_record_30 rfl rfl ?_
    refine zq_getr C fk_X3_11 sx71 rfl dX3_record_31 ?_
    refine zq_aload_n (i := 0) C dX3_record_34 rfl rfl ?_
    refine zq_get (kz := 1) C fk_X3_22 sx71 rfl dX3_record_35 rfl ?_
    refine zq_aload_n (i := 0) C dX3_record_38 rfl rfl ?_
    refine zq_get (kz := 2) C fk_X3_18 sx71 rfl dX3_record_39 rfl ?_
    obtain ⟨h1, hJ⟩ := hJ
    refine zq_iadd C dX3_record_42 h1 ?_
    refine zq_iconst (x := 4) C dX3_record_43 rfl ik_4 ?_
    obtain ⟨h2, hJ⟩ := hJ
    refine zq_irem C dX3_record_44 h2 (by decide) ?_
    obtain ⟨h4, h4', hJ⟩ := hJ
    obtain ⟨c3, ec3⟩ : ∃ z : Nat, z = 30 + 10 * Int.toNat (((M 71 1) + (M 71 2)) % 4) := ⟨_, rfl⟩
    have hc3 : zCh c3 := zch_st h4 h4' ec3
    have hJ := hJ c3 ec3
    refine zq_aald (q := c3) C sx72 h4 h4' (zch_get h4 h4' ec3) dX3_record_45 ?_
    refine zq_aload_n (i := 1) C dX3_record_46 rfl rfl ?_
    refine zq_callVv C [zr c1] (wC_copyFrom l hc3 hc1 _  hJ) ck_X3_25 iv_X0_copyFrom rfl (zs0 hc3) rfl rfl rfl rfl rfl rfl rfl dX3_record_47 (fun M5 hJ => ?_)
    refine zq_aload_n (i := 0) C dX3_record_50 rfl rfl ?_
    refine zq_dup C dX3_record_51 rfl ?_
    refine zq_get (kz := 2) C fk_X3_18 sx71 rfl dX3_record_52 rfl ?_
    refine zq_iconst (x := 1) C dX3_record_55 rfl ik_1 ?_
    obtain ⟨h6, hJ⟩ := hJ
    refine zq_iadd C dX3_record_56 h6 ?_
    refine zq_put (kz := 2) C fk_X3_18 sx71 rfl dX3_record_57 rfl (fun M7 hM7 => ?_)
    have hJ := hJ M7 hM7
    exact zq_vret C rfl hJ dX3_record_60
  refine zq_aload_n (i := 0) C dX3_record_0 rfl rfl ?_
  refine zq_get (kz := 2) C fk_X3_18 sx71 rfl dX3_record_1 rfl ?_
  refine zq_iconst (x := 4) C dX3_record_4 rfl ik_4 ?_
  refine zq_icmp_ne (tgt := 30) C dX3_record_5 rfl (fun h13 => ?_) (fun h13 => ?_)
  · have hJ := hJ.1 h13
    exact hj30 _ hJ
  · have hJ := hJ.2 h13
    refine zq_aload_n (i := 0) C dX3_record_8 rfl rfl ?_
    refine zq_aload_n (i := 0) C dX3_record_9 rfl rfl ?_
    refine zq_get (kz := 1) C fk_X3_22 sx71 rfl dX3_record_10 rfl ?_
    refine zq_iconst (x := 1) C dX3_record_13 rfl ik_1 ?_
    obtain ⟨h8, hJ⟩ := hJ
    refine zq_iadd C dX3_record_14 h8 ?_
    refine zq_iconst (x := 4) C dX3_record_15 rfl ik_4 ?_
    obtain ⟨h9, hJ⟩ := hJ
    refine zq_irem C dX3_record_16 h9 (by decide) ?_
    refine zq_put (kz := 1) C fk_X3_22 sx71 rfl dX3_record_17 rfl (fun M10 hM10 => ?_)
    have hJ := hJ M10 hM10
    refine zq_aload_n (i := 0) C dX3_record_20 rfl rfl ?_
    refine zq_dup C dX3_record_21 rfl ?_
    refine zq_get (kz := 2) C fk_X3_18 sx71 rfl dX3_record_22 rfl ?_
    refine zq_iconst (x := 1) C dX3_record_25 rfl ik_1 ?_
    obtain ⟨h11, hJ⟩ := hJ
    refine zq_isub C dX3_record_26 h11 ?_
    refine zq_put (kz := 2) C fk_X3_18 sx71 rfl dX3_record_27 rfl (fun M12 hM12 => ?_)
    have hJ := hJ M12 hM12
    exact hj30 _ hJ
