theorem zto3 {x : Int} (g0 : ¬ (x = 0)) (g1 : ¬ (x = 1)) (g2 : ¬ (x = 2)) : x < 0 ∨ 2 < x := by omega
theorem zto4 {x : Int} (g0 : ¬ (x = 0)) (g1 : ¬ (x = 1)) (g2 : ¬ (x = 2)) (g3 : ¬ (x = 3)) : x < 0 ∨ 3 < x := by omega
theorem zto7 {x : Int} (g0 : ¬ (x = 0)) (g1 : ¬ (x = 1)) (g2 : ¬ (x = 2)) (g3 : ¬ (x = 3)) (g4 : ¬ (x = 4)) (g5 : ¬ (x = 5)) (g6 : ¬ (x = 6)) : x < 0 ∨ 6 < x := by omega
theorem zto8 {x : Int} (g0 : ¬ (x = 0)) (g1 : ¬ (x = 1)) (g2 : ¬ (x = 2)) (g3 : ¬ (x = 3)) (g4 : ¬ (x = 4)) (g5 : ¬ (x = 5)) (g6 : ¬ (x = 6)) (g7 : ¬ (x = 7)) : x < 0 ∨ 7 < x := by omega
theorem zto12 {x : Int} (g0 : ¬ (x = 0)) (g1 : ¬ (x = 1)) (g2 : ¬ (x = 2)) (g3 : ¬ (x = 3)) (g4 : ¬ (x = 4)) (g5 : ¬ (x = 5)) (g6 : ¬ (x = 6)) (g7 : ¬ (x = 7)) (g8 : ¬ (x = 8)) (g9 : ¬ (x = 9)) (g10 : ¬ (x = 10)) (g11 : ¬ (x = 11)) : x < 0 ∨ 11 < x := by omega
theorem zto15 {x : Int} (g0 : ¬ (x = 0)) (g1 : ¬ (x = 1)) (g2 : ¬ (x = 2)) (g3 : ¬ (x = 3)) (g4 : ¬ (x = 4)) (g5 : ¬ (x = 5)) (g6 : ¬ (x = 6)) (g7 : ¬ (x = 7)) (g8 : ¬ (x = 8)) (g9 : ¬ (x = 9)) (g10 : ¬ (x = 10)) (g11 : ¬ (x = 11)) (g12 : ¬ (x = 12)) (g13 : ¬ (x = 13)) (g14 : ¬ (x = 14)) : x < 0 ∨ 14 < x := by omega
theorem zto17 {x : Int} (g0 : ¬ (x = 0)) (g1 : ¬ (x = 1)) (g2 : ¬ (x = 2)) (g3 : ¬ (x = 3)) (g4 : ¬ (x = 4)) (g5 : ¬ (x = 5)) (g6 : ¬ (x = 6)) (g7 : ¬ (x = 7)) (g8 : ¬ (x = 8)) (g9 : ¬ (x = 9)) (g10 : ¬ (x = 10)) (g11 : ¬ (x = 11)) (g12 : ¬ (x = 12)) (g13 : ¬ (x = 13)) (g14 : ¬ (x = 14)) (g15 : ¬ (x = 15)) (g16 : ¬ (x = 16)) : x < 0 ∨ 16 < x := by omega
theorem zto30 {x : Int} (g0 : ¬ (x = 0)) (g1 : ¬ (x = 1)) (g2 : ¬ (x = 2)) (g3 : ¬ (x = 3)) (g4 : ¬ (x = 4)) (g5 : ¬ (x = 5)) (g6 : ¬ (x = 6)) (g7 : ¬ (x = 7)) (g8 : ¬ (x = 8)) (g9 : ¬ (x = 9)) (g10 : ¬ (x = 10)) (g11 : ¬ (x = 11)) (g12 : ¬ (x = 12)) (g13 : ¬ (x = 13)) (g14 : ¬ (x = 14)) (g15 : ¬ (x = 15)) (g16 : ¬ (x = 16)) (g17 : ¬ (x = 17)) (g18 : ¬ (x = 18)) (g19 : ¬ (x = 19)) (g20 : ¬ (x = 20)) (g21 : ¬ (x = 21)) (g22 : ¬ (x = 22)) (g23 : ¬ (x = 23)) (g24 : ¬ (x = 24)) (g25 : ¬ (x = 25)) (g26 : ¬ (x = 26)) (g27 : ¬ (x = 27)) (g28 : ¬ (x = 28)) (g29 : ¬ (x = 29)) : x < 0 ∨ 29 < x := by omega
set_option maxRecDepth 100000 in
set_option maxHeartbeats 4000000 in
theorem wC_copyFrom (l : Launch) {b : Nat} (hb : zCh b) {c1 : Nat} (hc1 : zCh c1)  (M : zM) {Φ : zM → Prop} (hJ : jC_copyFrom b c1 M Φ) : zMet l yX0_copyFrom cX0_copyFrom 2 none 1 18 shX [zr b, zr c1] M (zU Φ) := by
  refine zq_enter [some (zr b), some (zr c1)] (by decide) rfl (Nat.le_of_ble_eq_true rfl) rfl (fun X C => ?_)
  unfold jC_copyFrom at hJ
  refine zq_aload_n (i := 0) C dX0_copyFrom_0 rfl rfl ?_
  refine zq_aload_n (i := 1) C dX0_copyFrom_1 rfl rfl ?_
  refine zq_get (kz := 0) C fk_X0_45 (zs0 hc1) rfl dX0_copyFrom_2 rfl ?_
  refine zq_put (kz := 0) C fk_X0_45 (zs0 hb) rfl dX0_copyFrom_5 rfl (fun M1 hM1 => ?_)
  have hJ := hJ M1 hM1
  refine zq_aload_n (i := 0) C dX0_copyFrom_8 rfl rfl ?_
  refine zq_aload_n (i := 1) C dX0_copyFrom_9 rfl rfl ?_
  refine zq_get (kz := 1) C fk_X0_49 (zs0 hc1) rfl dX0_copyFrom_10 rfl ?_
  refine zq_put (kz := 1) C fk_X0_49 (zs0 hb) rfl dX0_copyFrom_13 rfl (fun M2 hM2 => ?_)
  have hJ := hJ M2 hM2
  refine zq_aload_n (i := 1) C dX0_copyFrom_16 rfl rfl ?_
  refine zq_getr C fk_X0_9 (zs0 hc1) rfl dX0_copyFrom_17 ?_
  refine zq_iconst (x := 0) C dX0_copyFrom_20 rfl ik_0 ?_
  refine zq_aload_n (i := 0) C dX0_copyFrom_21 rfl rfl ?_
  refine zq_getr C fk_X0_9 (zs0 hb) rfl dX0_copyFrom_22 ?_
  refine zq_iconst (x := 0) C dX0_copyFrom_25 rfl ik_0 ?_
  refine zq_bipush (x := 30) C dX0_copyFrom_26 bi_30 ik_30 ?_
  refine zq_copy C ak_X0_52 (zs1 hc1) (zs1 hb) (by decide) (by decide) (by decide) (by decide) (by decide) rfl ⟨Nat.le_of_ble_eq_true rfl, Nat.le_of_ble_eq_true rfl⟩ dX0_copyFrom_28 (fun M3 hM3 => ?_)
  have hJ := hJ M3 hM3
  refine zq_aload_n (i := 1) C dX0_copyFrom_31 rfl rfl ?_
  refine zq_getr C fk_X0_15 (zs0 hc1) rfl dX0_copyFrom_32 ?_
  refine zq_iconst (x := 0) C dX0_copyFrom_35 rfl ik_0 ?_
  refine zq_aload_n (i := 0) C dX0_copyFrom_36 rfl rfl ?_
  refine zq_getr C fk_X0_15 (zs0 hb) rfl dX0_copyFrom_37 ?_
  refine zq_iconst (x := 0) C dX0_copyFrom_40 rfl ik_0 ?_
  refine zq_bipush (x := 30) C dX0_copyFrom_41 bi_30 ik_30 ?_
  refine zq_copy C ak_X0_52 (zs2 hc1) (zs2 hb) (by decide) (by decide) (by decide) (by decide) (by decide) rfl ⟨Nat.le_of_ble_eq_true rfl, Nat.le_of_ble_eq_true rfl⟩ dX0_copyFrom_43 (fun M4 hM4 => ?_)
  have hJ := hJ M4 hM4
  refine zq_aload_n (i := 1) C dX0_copyFrom_46 rfl rfl ?_
  refine zq_getr C fk_X0_18 (zs0 hc1) rfl dX0_copyFrom_47 ?_
  refine zq_iconst (x := 0) C dX0_copyFrom_50 rfl ik_0 ?_
  refine zq_aload_n (i := 0) C dX0_copyFrom_51 rfl rfl ?_
  refine zq_getr C fk_X0_18 (zs0 hb) rfl dX0_copyFrom_52 ?_
  refine zq_iconst (x := 0) C dX0_copyFrom_55 rfl ik_0 ?_
  refine zq_bipush (x := 30) C dX0_copyFrom_56 bi_30 ik_30 ?_
  refine zq_copy C ak_X0_52 (zs3 hc1) (zs3 hb) (by decide) (by decide) (by decide) (by decide) (by decide) rfl ⟨Nat.le_of_ble_eq_true rfl, Nat.le_of_ble_eq_true rfl⟩ dX0_copyFrom_58 (fun M5 hM5 => ?_)
  have hJ := hJ M5 hM5
  refine zq_aload_n (i := 1) C dX0_copyFrom_61 rfl rfl ?_
  refine zq_getr C fk_X0_21 (zs0 hc1) rfl dX0_copyFrom_62 ?_
  refine zq_iconst (x := 0) C dX0_copyFrom_65 rfl ik_0 ?_
  refine zq_aload_n (i := 0) C dX0_copyFrom_66 rfl rfl ?_
  refine zq_getr C fk_X0_21 (zs0 hb) rfl dX0_copyFrom_67 ?_
  refine zq_iconst (x := 0) C dX0_copyFrom_70 rfl ik_0 ?_
  refine zq_bipush (x := 30) C dX0_copyFrom_71 bi_30 ik_30 ?_
  refine zq_copy C ak_X0_52 (zs4 hc1) (zs4 hb) (by decide) (by decide) (by decide) (by decide) (by decide) rfl ⟨Nat.le_of_ble_eq_true rfl, Nat.le_of_ble_eq_true rfl⟩ dX0_copyFrom_73 (fun M6 hM6 => ?_)
  have hJ := hJ M6 hM6
  refine zq_aload_n (i := 0) C dX0_copyFrom_76 rfl rfl ?_
  refine zq_aload_n (i := 1) C dX0_copyFrom_77 rfl rfl ?_
  refine zq_get (kz := 6) C fk_X0_58 (zs0 hc1) rfl dX0_copyFrom_78 rfl ?_
  refine zq_put (kz := 6) C fk_X0_58 (zs0 hb) rfl dX0_copyFrom_81 rfl (fun M7 hM7 => ?_)
  have hJ := hJ M7 hM7
  refine zq_aload_n (i := 0) C dX0_copyFrom_84 rfl rfl ?_
  refine zq_aload_n (i := 1) C dX0_copyFrom_85 rfl rfl ?_
  refine zq_get (kz := 7) C fk_X0_61 (zs0 hc1) rfl dX0_copyFrom_86 rfl ?_
  refine zq_put (kz := 7) C fk_X0_61 (zs0 hb) rfl dX0_copyFrom_89 rfl (fun M8 hM8 => ?_)
  have hJ := hJ M8 hM8
  refine zq_aload_n (i := 1) C dX0_copyFrom_92 rfl rfl ?_
  refine zq_getr C fk_X0_24 (zs0 hc1) rfl dX0_copyFrom_93 ?_
  refine zq_iconst (x := 0) C dX0_copyFrom_96 rfl ik_0 ?_
  refine zq_aload_n (i := 0) C dX0_copyFrom_97 rfl rfl ?_
  refine zq_getr C fk_X0_24 (zs0 hb) rfl dX0_copyFrom_98 ?_
  refine zq_iconst (x := 0) C dX0_copyFrom_101 rfl ik_0 ?_
  refine zq_bipush (x := 40) C dX0_copyFrom_102 bi_40 ik_40 ?_
  refine zq_copy C ak_X0_52 (zs5 hc1) (zs5 hb) (by decide) (by decide) (by decide) (by decide) (by decide) rfl ⟨Nat.le_of_ble_eq_true rfl, Nat.le_of_ble_eq_true rfl⟩ dX0_copyFrom_104 (fun M9 hM9 => ?_)
  have hJ := hJ M9 hM9
  refine zq_aload_n (i := 1) C dX0_copyFrom_107 rfl rfl ?_
  refine zq_getr C fk_X0_27 (zs0 hc1) rfl dX0_copyFrom_108 ?_
  refine zq_iconst (x := 0) C dX0_copyFrom_111 rfl ik_0 ?_
  refine zq_aload_n (i := 0) C dX0_copyFrom_112 rfl rfl ?_
  refine zq_getr C fk_X0_27 (zs0 hb) rfl dX0_copyFrom_113 ?_
  refine zq_iconst (x := 0) C dX0_copyFrom_116 rfl ik_0 ?_
  refine zq_bipush (x := 40) C dX0_copyFrom_117 bi_40 ik_40 ?_
  refine zq_copy C ak_X0_52 (zs6 hc1) (zs6 hb) (by decide) (by decide) (by decide) (by decide) (by decide) rfl ⟨Nat.le_of_ble_eq_true rfl, Nat.le_of_ble_eq_true rfl⟩ dX0_copyFrom_119 (fun M10 hM10 => ?_)
  have hJ := hJ M10 hM10
  refine zq_aload_n (i := 1) C dX0_copyFrom_122 rfl rfl ?_
  refine zq_getr C fk_X0_30 (zs0 hc1) rfl dX0_copyFrom_123 ?_
  refine zq_iconst (x := 0) C dX0_copyFrom_126 rfl ik_0 ?_
  refine zq_aload_n (i := 0) C dX0_copyFrom_127 rfl rfl ?_
  refine zq_getr C fk_X0_30 (zs0 hb) rfl dX0_copyFrom_128 ?_
  refine zq_iconst (x := 0) C dX0_copyFrom_131 rfl ik_0 ?_
  refine zq_bipush (x := 40) C dX0_copyFrom_132 bi_40 ik_40 ?_
  refine zq_copy C ak_X0_52 (zs7 hc1) (zs7 hb) (by decide) (by decide) (by decide) (by decide) (by decide) rfl ⟨Nat.le_of_ble_eq_true rfl, Nat.le_of_ble_eq_true rfl⟩ dX0_copyFrom_134 (fun M11 hM11 => ?_)
  have hJ := hJ M11 hM11
  refine zq_aload_n (i := 1) C dX0_copyFrom_137 rfl rfl ?_
  refine zq_getr C fk_X0_33 (zs0 hc1) rfl dX0_copyFrom_138 ?_
  refine zq_iconst (x := 0) C dX0_copyFrom_141 rfl ik_0 ?_
  refine zq_aload_n (i := 0) C dX0_copyFrom_142 rfl rfl ?_
  refine zq_getr C fk_X0_33 (zs0 hb) rfl dX0_copyFrom_143 ?_
  refine zq_iconst (x := 0) C dX0_copyFrom_146 rfl ik_0 ?_
  refine zq_sipush (x := 200) C dX0_copyFrom_147 si_200 ik_200 ?_
  refine zq_copy C ak_X0_52 (zs8 hc1) (zs8 hb) (by decide) (by decide) (by decide) (by decide) (by decide) rfl ⟨Nat.le_of_ble_eq_true rfl, Nat.le_of_ble_eq_true rfl⟩ dX0_copyFrom_150 (fun M12 hM12 => ?_)
  have hJ := hJ M12 hM12
  refine zq_aload_n (i := 1) C dX0_copyFrom_153 rfl rfl ?_
  refine zq_getr C fk_X0_36 (zs0 hc1) rfl dX0_copyFrom_154 ?_
  refine zq_iconst (x := 0) C dX0_copyFrom_157 rfl ik_0 ?_
  refine zq_aload_n (i := 0) C dX0_copyFrom_158 rfl rfl ?_
  refine zq_getr C fk_X0_36 (zs0 hb) rfl dX0_copyFrom_159 ?_
  refine zq_iconst (x := 0) C dX0_copyFrom_162 rfl ik_0 ?_
  refine zq_iconst (x := 2) C dX0_copyFrom_163 rfl ik_2 ?_
  refine zq_copy C ak_X0_52 (zs9 hc1) (zs9 hb) (by decide) (by decide) (by decide) (by decide) (by decide) rfl ⟨Nat.le_of_ble_eq_true rfl, Nat.le_of_ble_eq_true rfl⟩ dX0_copyFrom_164 (fun M13 hM13 => ?_)
  have hJ := hJ M13 hM13
  refine zq_aload_n (i := 0) C dX0_copyFrom_167 rfl rfl ?_
  refine zq_aload_n (i := 1) C dX0_copyFrom_168 rfl rfl ?_
  refine zq_get (kz := 13) C fk_X0_64 (zs0 hc1) rfl dX0_copyFrom_169 rfl ?_
  refine zq_put (kz := 13) C fk_X0_64 (zs0 hb) rfl dX0_copyFrom_172 rfl (fun M14 hM14 => ?_)
  have hJ := hJ M14 hM14
  exact zq_vret C rfl hJ dX0_copyFrom_175
set_option maxRecDepth 100000 in
set_option maxHeartbeats 4000000 in
theorem wB_isLane (l : Launch) (a1 : Int) (M : zM) {Φ : Int → Prop} (hJ : jB_isLane a1 M Φ) : zMet l yX7_isLane cX7_isLane 1 (some .boolean) 0 0 shX [zi a1] M (zI (fun z M' => M = M' ∧ Φ z)) := by
  refine zq_enter [some (zi a1)] (by decide) rfl (Nat.le_of_ble_eq_true rfl) rfl (fun X C => ?_)
  unfold jB_isLane at hJ
  refine zq_iload_n (i := 0) C dX7_isLane_0 rfl rfl ?_
  refine zq_if_lt (tgt := 14) C dX7_isLane_1 rfl (fun h2 => ?_) (fun h2 => ?_)
  · have hJ := hJ.1 h2
    refine zq_iconst (x := 0) C dX7_isLane_14 rfl ik_0 ?_
    exact zq_zret C rfl (Or.inl rfl) ⟨_, rfl, rfl, hJ⟩ dX7_isLane_15
  · have hJ := hJ.2 h2
    refine zq_iload_n (i := 0) C dX7_isLane_4 rfl rfl ?_
    refine zq_bipush (x := 12) C dX7_isLane_5 bi_12 ik_12 ?_
    refine zq_icmp_ge (tgt := 14) C dX7_isLane_7 rfl (fun h1 => ?_) (fun h1 => ?_)
    · have hJ := hJ.1 h1
      refine zq_iconst (x := 0) C dX7_isLane_14 rfl ik_0 ?_
      exact zq_zret C rfl (Or.inl rfl) ⟨_, rfl, rfl, hJ⟩ dX7_isLane_15
    · have hJ := hJ.2 h1
      refine zq_iconst (x := 1) C dX7_isLane_10 rfl ik_1 ?_
      refine zq_goto (tgt := 15) C dX7_isLane_11 rfl ?_
      exact zq_zret C rfl (Or.inr rfl) ⟨_, rfl, rfl, hJ⟩ dX7_isLane_15
set_option maxRecDepth 100000 in
set_option maxHeartbeats 4000000 in
theorem wB_isDay (l : Launch) (a1 : Int) (M : zM) {Φ : Int → Prop} (hJ : jB_isDay a1 M Φ) : zMet l yX7_isDay cX7_isDay 1 (some .boolean) 0 0 shX [zi a1] M (zI (fun z M' => M = M' ∧ Φ z)) := by
  refine zq_enter [some (zi a1)] (by decide) rfl (Nat.le_of_ble_eq_true rfl) rfl (fun X C => ?_)
  unfold jB_isDay at hJ
  refine zq_iload_n (i := 0) C dX7_isDay_0 rfl rfl ?_
  refine zq_if_lt (tgt := 15) C dX7_isDay_1 rfl (fun h2 => ?_) (fun h2 => ?_)
  · have hJ := hJ.1 h2
    refine zq_iconst (x := 0) C dX7_isDay_15 rfl ik_0 ?_
    exact zq_zret C rfl (Or.inl rfl) ⟨_, rfl, rfl, hJ⟩ dX7_isDay_16
  · have hJ := hJ.2 h2
    refine zq_iload_n (i := 0) C dX7_isDay_4 rfl rfl ?_
    refine zq_sipush (x := 200) C dX7_isDay_5 si_200 ik_200 ?_
    refine zq_icmp_ge (tgt := 15) C dX7_isDay_8 rfl (fun h1 => ?_) (fun h1 => ?_)
    · have hJ := hJ.1 h1
      refine zq_iconst (x := 0) C dX7_isDay_15 rfl ik_0 ?_
      exact zq_zret C rfl (Or.inl rfl) ⟨_, rfl, rfl, hJ⟩ dX7_isDay_16
    · have hJ := hJ.2 h1
      refine zq_iconst (x := 1) C dX7_isDay_11 rfl ik_1 ?_
      refine zq_goto (tgt := 16) C dX7_isDay_12 rfl ?_
      exact zq_zret C rfl (Or.inr rfl) ⟨_, rfl, rfl, hJ⟩ dX7_isDay_16
set_option maxRecDepth 100000 in
set_option maxHeartbeats 4000000 in
theorem wC_endOf (l : Launch) {b : Nat} (hb : zCh b) (a1 : Int) (M : zM) {Φ : Int → Prop} (hJ : jC_endOf b a1 M Φ) : zMet l yX0_endOf cX0_endOf 2 (some .int) 0 0 shX [zr b, zi a1] M (zI (fun z M' => M = M' ∧ Φ z)) := by
  refine zq_enter [some (zr b), some (zi a1)] (by decide) rfl (Nat.le_of_ble_eq_true rfl) rfl (fun X C => ?_)
  unfold jC_endOf at hJ
  refine zq_aload_n (i := 0) C dX0_endOf_0 rfl rfl ?_
  refine zq_getr C fk_X0_18 (zs0 hb) rfl dX0_endOf_1 ?_
  refine zq_iload_n (i := 1) C dX0_endOf_4 rfl rfl ?_
  obtain ⟨h1, h1', hJ⟩ := hJ
  refine zq_iald C (zs3 hb) h1 h1' dX0_endOf_5 ?_
  refine zq_aload_n (i := 0) C dX0_endOf_6 rfl rfl ?_
  refine zq_getr C fk_X0_21 (zs0 hb) rfl dX0_endOf_7 ?_
  refine zq_iload_n (i := 1) C dX0_endOf_10 rfl rfl ?_
  obtain ⟨h2, h2', hJ⟩ := hJ
  refine zq_iald C (zs4 hb) h2 h2' dX0_endOf_11 ?_
  obtain ⟨h3, hJ⟩ := hJ
  refine zq_iadd C dX0_endOf_12 h3 ?_
  exact zq_iret C rfl ⟨_, rfl, rfl, hJ⟩ dX0_endOf_13
set_option maxRecDepth 100000 in
set_option maxHeartbeats 4000000 in
theorem wC_sharesDays (l : Launch) {b : Nat} (hb : zCh b) (a1 a2 a3 : Int) (M : zM) {Φ : Int → Prop} (hJ : jC_sharesDays b a1 a2 a3 M Φ) : zMet l yX0_sharesDays cX0_sharesDays 4 (some .boolean) 1 21 shX [zr b, zi a1, zi a2, zi a3] M (zI (fun z M' => M = M' ∧ Φ z)) := by
  refine zq_enter [some (zr b), some (zi a1), some (zi a2), some (zi a3)] (by decide) rfl (Nat.le_of_ble_eq_true rfl) rfl (fun X C => ?_)
  unfold jC_sharesDays at hJ
  refine zq_aload_n (i := 0) C dX0_sharesDays_0 rfl rfl ?_
  refine zq_getr C fk_X0_18 (zs0 hb) rfl dX0_sharesDays_1 ?_
  refine zq_iload_n (i := 1) C dX0_sharesDays_4 rfl rfl ?_
  obtain ⟨h1, h1', hJ⟩ := hJ
  refine zq_iald C (zs3 hb) h1 h1' dX0_sharesDays_5 ?_
  refine zq_iload_n (i := 3) C dX0_sharesDays_6 rfl rfl ?_
  refine zq_icmp_ge (tgt := 23) C dX0_sharesDays_7 rfl (fun h5 => ?_) (fun h5 => ?_)
  · have hJ := hJ.1 h5
    refine zq_iconst (x := 0) C dX0_sharesDays_23 rfl ik_0 ?_
    exact zq_zret C rfl (Or.inl rfl) ⟨_, rfl, rfl, hJ⟩ dX0_sharesDays_24
  · have hJ := hJ.2 h5
    refine zq_iload_n (i := 2) C dX0_sharesDays_10 rfl rfl ?_
    refine zq_aload_n (i := 0) C dX0_sharesDays_11 rfl rfl ?_
    refine zq_iload_n (i := 1) C dX0_sharesDays_12 rfl rfl ?_
    refine zq_callVi C [zi a1] (wC_endOf l hb _ _  hJ) ck_X0_97 iv_X0_endOf rfl (zs0 hb) rfl rfl rfl rfl rfl rfl dX0_sharesDays_13 (fun r2 N3 hN3 => ?_)
    obtain ⟨rfl, hJ⟩ := hN3
    refine zq_icmp_ge (tgt := 23) C dX0_sharesDays_16 rfl (fun h4 => ?_) (fun h4 => ?_)
    · have hJ := hJ.1 h4
      refine zq_iconst (x := 0) C dX0_sharesDays_23 rfl ik_0 ?_
      exact zq_zret C rfl (Or.inl rfl) ⟨_, rfl, rfl, hJ⟩ dX0_sharesDays_24
    · have hJ := hJ.2 h4
      refine zq_iconst (x := 1) C dX0_sharesDays_19 rfl ik_1 ?_
      refine zq_goto (tgt := 24) C dX0_sharesDays_20 rfl ?_
      exact zq_zret C rfl (Or.inr rfl) ⟨_, rfl, rfl, hJ⟩ dX0_sharesDays_24
set_option maxRecDepth 100000 in
set_option maxHeartbeats 4000000 in
theorem wC_hasRoom (l : Launch) {b : Nat} (hb : zCh b) (a1 a2 a3 a4 : Int) (M : zM) {Φ : Int → Prop} (hJ : jC_hasRoom b a1 a2 a3 a4 M Φ) : zMet l yX0_hasRoom cX0_hasRoom 6 (some .boolean) 2 44 shX [zr b, zi a1, zi a2, zi a3, zi a4] M (zI (fun z M' => M = M' ∧ Φ z)) := by
  refine zq_enter [some (zr b), some (zi a1), some (zi a2), some (zi a3), some (zi a4), none] (by decide) rfl (Nat.le_of_ble_eq_true rfl) rfl (fun X C => ?_)
  unfold jC_hasRoom at hJ
  have hl3 : ∀ (s : Int), zwh (fun K s => jC_hasRoom_L3 b a1 a2 a3 a4 K Φ M (s)) s → zG X M 3 [some (zr b), some (zi a1), some (zi a2), some (zi a3), some (zi a4), some (zi s)] [] := by
    refine zwh_sound ?_
    intro K3 s hK3 hJ
    obtain ⟨x5, rfl⟩ : ∃ z, z = s := ⟨_, rfl⟩
    have hJ : jC_hasRoom_L3 b a1 a2 a3 a4 K3 Φ M x5 := hJ
    show zG X M 3 [some (zr b), some (zi a1), some (zi a2), some (zi a3), some (zi a4), some (zi x5)] []
    unfold jC_hasRoom_L3 at hJ
    refine zq_iload C dX0_hasRoom_3 rfl ?_
    refine zq_aload_n (i := 0) C dX0_hasRoom_5 rfl rfl ?_
    refine zq_get (kz := 0) C fk_X0_45 (zs0 hb) rfl dX0_hasRoom_6 rfl ?_
    refine zq_icmp_ge (tgt := 51) C dX0_hasRoom_9 rfl (fun h11 => ?_) (fun h11 => ?_)
    · have hJ := hJ.1 h11
      refine zq_iconst (x := 1) C dX0_hasRoom_51 rfl ik_1 ?_
      exact zq_zret C rfl (Or.inr rfl) ⟨_, rfl, rfl, hJ⟩ dX0_hasRoom_52
    · have hJ := hJ.2 h11
      refine zq_iload C dX0_hasRoom_12 rfl ?_
      refine zq_iload C dX0_hasRoom_14 rfl ?_
      refine zq_icmp_eq (tgt := 45) C dX0_hasRoom_16 rfl (fun h10 => ?_) (fun h10 => ?_)
      · have hJ := hJ.1 h10
        obtain ⟨hv5_1, hJ⟩ := hJ
        refine zq_iinc (y := x5 + 1) (lv' := [some (zr b), some (zi a1), some (zi a2), some (zi a3), some (zi a4), some (zi (x5 + 1))]) C dX0_hasRoom_45 rfl rfl hv5_1 rfl ?_
        obtain ⟨v5_1, ev5_1⟩ : ∃ z, z = x5 + 1 := ⟨_, rfl⟩
        rw [← ev5_1]
        have hJ := hJ v5_1 ev5_1
        refine zq_goto (tgt := 3) C dX0_hasRoom_48 rfl ?_
        exact hK3 _ hJ
      · have hJ := hJ.2 h10
        refine zq_aload_n (i := 0) C dX0_hasRoom_19 rfl rfl ?_
        refine zq_getr C fk_X0_15 (zs0 hb) rfl dX0_hasRoom_20 ?_
        refine zq_iload C dX0_hasRoom_23 rfl ?_
        obtain ⟨h2, h2', hJ⟩ := hJ
        refine zq_iald C (zs2 hb) h2 h2' dX0_hasRoom_25 ?_
        refine zq_iload_n (i := 1) C dX0_hasRoom_26 rfl rfl ?_
        refine zq_icmp_ne (tgt := 45) C dX0_hasRoom_27 rfl (fun h9 => ?_) (fun h9 => ?_)
        · have hJ := hJ.1 h9
          obtain ⟨hv5_3, hJ⟩ := hJ
          refine zq_iinc (y := x5 + 1) (lv' := [some (zr b), some (zi a1), some (zi a2), some (zi a3), some (zi a4), some (zi (x5 + 1))]) C dX0_hasRoom_45 rfl rfl hv5_3 rfl ?_
          obtain ⟨v5_3, ev5_3⟩ : ∃ z, z = x5 + 1 := ⟨_, rfl⟩
          rw [← ev5_3]
          have hJ := hJ v5_3 ev5_3
          refine zq_goto (tgt := 3) C dX0_hasRoom_48 rfl ?_
          exact hK3 _ hJ
        · have hJ := hJ.2 h9
          refine zq_aload_n (i := 0) C dX0_hasRoom_30 rfl rfl ?_
          refine zq_iload C dX0_hasRoom_31 rfl ?_
          refine zq_iload_n (i := 2) C dX0_hasRoom_33 rfl rfl ?_
          refine zq_iload_n (i := 2) C dX0_hasRoom_34 rfl rfl ?_
          refine zq_iload_n (i := 3) C dX0_hasRoom_35 rfl rfl ?_
          obtain ⟨h4, hJ⟩ := hJ
          refine zq_iadd C dX0_hasRoom_36 h4 ?_
          refine zq_callVi C [zi x5, zi a2, zi (a2 + a3)] (wC_sharesDays l hb _ _ _ _  hJ) ck_X0_93 iv_X0_sharesDays rfl (zs0 hb) rfl rfl rfl rfl rfl rfl dX0_hasRoom_37 (fun r5 N6 hN6 => ?_)
          obtain ⟨rfl, hJ⟩ := hN6
          refine zq_if_eq (tgt := 45) C dX0_hasRoom_40 rfl (fun h8 => ?_) (fun h8 => ?_)
          · have hJ := hJ.1 h8
            obtain ⟨hv5_7, hJ⟩ := hJ
            refine zq_iinc (y := x5 + 1) (lv' := [some (zr b), some (zi a1), some (zi a2), some (zi a3), some (zi a4), some (zi (x5 + 1))]) C dX0_hasRoom_45 rfl rfl hv5_7 rfl ?_
            obtain ⟨v5_7, ev5_7⟩ : ∃ z, z = x5 + 1 := ⟨_, rfl⟩
            rw [← ev5_7]
            have hJ := hJ v5_7 ev5_7
            refine zq_goto (tgt := 3) C dX0_hasRoom_48 rfl ?_
            exact hK3 _ hJ
          · have hJ := hJ.2 h8
            refine zq_iconst (x := 0) C dX0_hasRoom_43 rfl ik_0 ?_
            exact zq_zret C rfl (Or.inl rfl) ⟨_, rfl, rfl, hJ⟩ dX0_hasRoom_44
  refine zq_iconst (x := 0) C dX0_hasRoom_0 rfl ik_0 ?_
  refine zq_istore (lv' := [some (zr b), some (zi a1), some (zi a2), some (zi a3), some (zi a4), some (zi 0)]) C dX0_hasRoom_1 (Nat.le_of_ble_eq_true rfl) rfl ?_
  exact hl3 _ hJ
set_option maxRecDepth 100000 in
set_option maxHeartbeats 4000000 in
theorem wC_addBar (l : Launch) {b : Nat} (hb : zCh b) (a1 a2 a3 : Int) (M : zM) {Φ : Int → zM → Prop} (hJ : jC_addBar b a1 a2 a3 M Φ) : zMet l yX0_addBar cX0_addBar 4 (some .int) 3 69 shX [zr b, zi a1, zi a2, zi a3] M (zI Φ) := by
  refine zq_enter [some (zr b), some (zi a1), some (zi a2), some (zi a3)] (by decide) rfl (Nat.le_of_ble_eq_true rfl) rfl (fun X C => ?_)
  unfold jC_addBar at hJ
  refine zq_iload_n (i := 1) C dX0_addBar_0 rfl rfl ?_
  refine zq_callSNi C [zi a1] (wB_isLane l _ _  hJ) ck_X0_67 st_X7_isLane rfl rfl rfl rfl rfl rfl dX0_addBar_1 (fun r1 N2 hN2 => ?_)
  obtain ⟨rfl, hJ⟩ := hN2
  refine zq_if_ne (tgt := 9) C dX0_addBar_4 rfl (fun h28 => ?_) (fun h28 => ?_)
  · have hJ := hJ.1 h28
    refine zq_iload_n (i := 2) C dX0_addBar_9 rfl rfl ?_
    refine zq_callSNi C [zi a2] (wB_isDay l _ _  hJ) ck_X0_71 st_X7_isDay rfl rfl rfl rfl rfl rfl dX0_addBar_10 (fun r3 N4 hN4 => ?_)
    obtain ⟨rfl, hJ⟩ := hN4
    refine zq_if_eq (tgt := 36) C dX0_addBar_13 rfl (fun h27 => ?_) (fun h27 => ?_)
    · have hJ := hJ.1 h27
      refine zq_bipush (x := (-2)) C dX0_addBar_36 bi_m2 ik_m2 ?_
      exact zq_iret C rfl ⟨_, rfl, hJ⟩ dX0_addBar_38
    · have hJ := hJ.2 h27
      refine zq_iload_n (i := 3) C dX0_addBar_16 rfl rfl ?_
      refine zq_iconst (x := 1) C dX0_addBar_17 rfl ik_1 ?_
      refine zq_icmp_lt (tgt := 36) C dX0_addBar_18 rfl (fun h26 => ?_) (fun h26 => ?_)
      · have hJ := hJ.1 h26
        refine zq_bipush (x := (-2)) C dX0_addBar_36 bi_m2 ik_m2 ?_
        exact zq_iret C rfl ⟨_, rfl, hJ⟩ dX0_addBar_38
      · have hJ := hJ.2 h26
        refine zq_iload_n (i := 3) C dX0_addBar_21 rfl rfl ?_
        refine zq_bipush (x := 30) C dX0_addBar_22 bi_30 ik_30 ?_
        refine zq_icmp_gt (tgt := 36) C dX0_addBar_24 rfl (fun h25 => ?_) (fun h25 => ?_)
        · have hJ := hJ.1 h25
          refine zq_bipush (x := (-2)) C dX0_addBar_36 bi_m2 ik_m2 ?_
          exact zq_iret C rfl ⟨_, rfl, hJ⟩ dX0_addBar_38
        · have hJ := hJ.2 h25
          refine zq_iload_n (i := 2) C dX0_addBar_27 rfl rfl ?_
          refine zq_iload_n (i := 3) C dX0_addBar_28 rfl rfl ?_
          obtain ⟨h5, hJ⟩ := hJ
          refine zq_iadd C dX0_addBar_29 h5 ?_
          refine zq_sipush (x := 200) C dX0_addBar_30 si_200 ik_200 ?_
          refine zq_icmp_le (tgt := 39) C dX0_addBar_33 rfl (fun h24 => ?_) (fun h24 => ?_)
          · have hJ := hJ.1 h24
            refine zq_aload_n (i := 0) C dX0_addBar_39 rfl rfl ?_
            refine zq_iload_n (i := 1) C dX0_addBar_40 rfl rfl ?_
            refine zq_iload_n (i := 2) C dX0_addBar_41 rfl rfl ?_
            refine zq_iload_n (i := 3) C dX0_addBar_42 rfl rfl ?_
            refine zq_iconst (x := (-1)) C dX0_addBar_43 rfl ik_m1 ?_
            refine zq_callVi C [zi a1, zi a2, zi a3, zi (-1)] (wC_hasRoom l hb _ _ _ _ _  hJ) ck_X0_74 iv_X0_hasRoom rfl (zs0 hb) rfl rfl rfl rfl rfl rfl dX0_addBar_44 (fun r6 N7 hN7 => ?_)
            obtain ⟨rfl, hJ⟩ := hN7
            refine zq_if_ne (tgt := 53) C dX0_addBar_47 rfl (fun h23 => ?_) (fun h23 => ?_)
            · have hJ := hJ.1 h23
              refine zq_aload_n (i := 0) C dX0_addBar_53 rfl rfl ?_
              refine zq_get (kz := 0) C fk_X0_45 (zs0 hb) rfl dX0_addBar_54 rfl ?_
              refine zq_bipush (x := 30) C dX0_addBar_57 bi_30 ik_30 ?_
              refine zq_icmp_ge (tgt := 71) C dX0_addBar_59 rfl (fun h22 => ?_) (fun h22 => ?_)
              · have hJ := hJ.1 h22
                refine zq_bipush (x := (-3)) C dX0_addBar_71 bi_m3 ik_m3 ?_
                exact zq_iret C rfl ⟨_, rfl, hJ⟩ dX0_addBar_73
              · have hJ := hJ.2 h22
                refine zq_aload_n (i := 0) C dX0_addBar_62 rfl rfl ?_
                refine zq_get (kz := 1) C fk_X0_49 (zs0 hb) rfl dX0_addBar_63 rfl ?_
                refine zq_bipush (x := 90) C dX0_addBar_66 bi_90 ik_90 ?_
                refine zq_icmp_lt (tgt := 74) C dX0_addBar_68 rfl (fun h21 => ?_) (fun h21 => ?_)
                · have hJ := hJ.1 h21
                  refine zq_aload_n (i := 0) C dX0_addBar_74 rfl rfl ?_
                  refine zq_getr C fk_X0_9 (zs0 hb) rfl dX0_addBar_75 ?_
                  refine zq_aload_n (i := 0) C dX0_addBar_78 rfl rfl ?_
                  refine zq_get (kz := 0) C fk_X0_45 (zs0 hb) rfl dX0_addBar_79 rfl ?_
                  refine zq_aload_n (i := 0) C dX0_addBar_82 rfl rfl ?_
                  refine zq_get (kz := 1) C fk_X0_49 (zs0 hb) rfl dX0_addBar_83 rfl ?_
                  obtain ⟨h8, h8', hJ⟩ := hJ
                  refine zq_iast C (zs1 hb) h8 h8' dX0_addBar_86 (fun M9 hM9 => ?_)
                  have hJ := hJ M9 hM9
                  refine zq_aload_n (i := 0) C dX0_addBar_87 rfl rfl ?_
                  refine zq_getr C fk_X0_15 (zs0 hb) rfl dX0_addBar_88 ?_
                  refine zq_aload_n (i := 0) C dX0_addBar_91 rfl rfl ?_
                  refine zq_get (kz := 0) C fk_X0_45 (zs0 hb) rfl dX0_addBar_92 rfl ?_
                  refine zq_iload_n (i := 1) C dX0_addBar_95 rfl rfl ?_
                  obtain ⟨h10, h10', hJ⟩ := hJ
                  refine zq_iast C (zs2 hb) h10 h10' dX0_addBar_96 (fun M11 hM11 => ?_)
                  have hJ := hJ M11 hM11
                  refine zq_aload_n (i := 0) C dX0_addBar_97 rfl rfl ?_
                  refine zq_getr C fk_X0_18 (zs0 hb) rfl dX0_addBar_98 ?_
                  refine zq_aload_n (i := 0) C dX0_addBar_101 rfl rfl ?_
                  refine zq_get (kz := 0) C fk_X0_45 (zs0 hb) rfl dX0_addBar_102 rfl ?_
                  refine zq_iload_n (i := 2) C dX0_addBar_105 rfl rfl ?_
                  obtain ⟨h12, h12', hJ⟩ := hJ
                  refine zq_iast C (zs3 hb) h12 h12' dX0_addBar_106 (fun M13 hM13 => ?_)
                  have hJ := hJ M13 hM13
                  refine zq_aload_n (i := 0) C dX0_addBar_107 rfl rfl ?_
                  refine zq_getr C fk_X0_21 (zs0 hb) rfl dX0_addBar_108 ?_
                  refine zq_aload_n (i := 0) C dX0_addBar_111 rfl rfl ?_
                  refine zq_get (kz := 0) C fk_X0_45 (zs0 hb) rfl dX0_addBar_112 rfl ?_
                  refine zq_iload_n (i := 3) C dX0_addBar_115 rfl rfl ?_
                  obtain ⟨h14, h14', hJ⟩ := hJ
                  refine zq_iast C (zs4 hb) h14 h14' dX0_addBar_116 (fun M15 hM15 => ?_)
                  have hJ := hJ M15 hM15
                  refine zq_aload_n (i := 0) C dX0_addBar_117 rfl rfl ?_
                  refine zq_dup C dX0_addBar_118 rfl ?_
                  refine zq_get (kz := 0) C fk_X0_45 (zs0 hb) rfl dX0_addBar_119 rfl ?_
                  refine zq_iconst (x := 1) C dX0_addBar_122 rfl ik_1 ?_
                  obtain ⟨h16, hJ⟩ := hJ
                  refine zq_iadd C dX0_addBar_123 h16 ?_
                  refine zq_put (kz := 0) C fk_X0_45 (zs0 hb) rfl dX0_addBar_124 rfl (fun M17 hM17 => ?_)
                  have hJ := hJ M17 hM17
                  refine zq_aload_n (i := 0) C dX0_addBar_127 rfl rfl ?_
                  refine zq_dup C dX0_addBar_128 rfl ?_
                  refine zq_get (kz := 1) C fk_X0_49 (zs0 hb) rfl dX0_addBar_129 rfl ?_
                  refine zq_iconst (x := 1) C dX0_addBar_132 rfl ik_1 ?_
                  obtain ⟨h18, hJ⟩ := hJ
                  refine zq_iadd C dX0_addBar_133 h18 ?_
                  refine zq_put (kz := 1) C fk_X0_49 (zs0 hb) rfl dX0_addBar_134 rfl (fun M19 hM19 => ?_)
                  have hJ := hJ M19 hM19
                  refine zq_aload_n (i := 0) C dX0_addBar_137 rfl rfl ?_
                  refine zq_get (kz := 1) C fk_X0_49 (zs0 hb) rfl dX0_addBar_138 rfl ?_
                  refine zq_iconst (x := 1) C dX0_addBar_141 rfl ik_1 ?_
                  obtain ⟨h20, hJ⟩ := hJ
                  refine zq_isub C dX0_addBar_142 h20 ?_
                  exact zq_iret C rfl ⟨_, rfl, hJ⟩ dX0_addBar_143
                · have hJ := hJ.2 h21
                  refine zq_bipush (x := (-3)) C dX0_addBar_71 bi_m3 ik_m3 ?_
                  exact zq_iret C rfl ⟨_, rfl, hJ⟩ dX0_addBar_73
            · have hJ := hJ.2 h23
              refine zq_bipush (x := (-4)) C dX0_addBar_50 bi_m4 ik_m4 ?_
              exact zq_iret C rfl ⟨_, rfl, hJ⟩ dX0_addBar_52
          · have hJ := hJ.2 h24
            refine zq_bipush (x := (-2)) C dX0_addBar_36 bi_m2 ik_m2 ?_
            exact zq_iret C rfl ⟨_, rfl, hJ⟩ dX0_addBar_38
  · have hJ := hJ.2 h28
    refine zq_iconst (x := (-1)) C dX0_addBar_7 rfl ik_m1 ?_
    exact zq_iret C rfl ⟨_, rfl, hJ⟩ dX0_addBar_8
set_option maxRecDepth 100000 in
set_option maxHeartbeats 4000000 in
theorem wH_record (l : Launch) {c1 : Nat} (hc1 : zCh c1)  (M : zM) {Φ : zM → Prop} (hJ : jH_record c1 M Φ) : zMet l yX3_record cX3_record 2 none 2 39 shX [zr 71, zr c1] M (zU Φ) := by
  refine zq_enter [some (zr 71), some (zr c1)] (by decide) rfl (Nat.le_of_ble_eq_true rfl) rfl (fun X C => ?_)
  unfold jH_record at hJ
  have hj30 : ∀ (M : zM), jH_record_J30 c1 Φ M → zG X M 30 [some (zr 71), some (zr c1)] [] := by
    intro M hJ
    unfold jH_record_J30 at hJ
    refine zq_aload_n (i := 0) C dX3_record_30 rfl rfl ?_
    refine zq_getr C fk_X3_11 sx71 rfl dX3_record_31 ?_
    refine zq_aload_n (i := 0) C dX3_record_34 rfl rfl ?_
    refine zq_get (kz := 1) C fk_X3_22 sx71 rfl dX3_record_35 rfl ?_
    refine zq_aload_n (i := 0) C dX3_record_38 rfl rfl ?_
    refine zq_get (kz := 2) C fk_X3_18 sx71 rfl dX3_record_39 rfl ?_
    obtain ⟨h1, hJ⟩ := hJ
    refine zq_iadd C dX3_record_42 h1 ?_
    refine zq_iconst (x := 4) C dX3_record_43 rfl ik_4 ?_
    obtain ⟨h2, hJ⟩ := hJ
    refine zq_irem C dX3_record_44 h2 (by decide) ?_
    obtain ⟨h4, h4', hJ⟩ := hJ
    obtain ⟨c3, ec3⟩ : ∃ z : Nat, z = 30 + 10 * Int.toNat (((M 71 1) + (M 71 2)) % 4) := ⟨_, rfl⟩
    have hc3 : zCh c3 := zch_st h4 h4' ec3
    have hJ := hJ c3 ec3
    refine zq_aald (q := c3) C sx72 h4 h4' (zch_get h4 h4' ec3) dX3_record_45 ?_
    refine zq_aload_n (i := 1) C dX3_record_46 rfl rfl ?_
    refine zq_callVv C [zr c1] (wC_copyFrom l hc3 hc1 _  hJ) ck_X3_25 iv_X0_copyFrom rfl (zs0 hc3) rfl rfl rfl rfl rfl rfl dX3_record_47 (fun M5 hJ => ?_)
    refine zq_aload_n (i := 0) C dX3_record_50 rfl rfl ?_
    refine zq_dup C dX3_record_51 rfl ?_
    refine zq_get (kz := 2) C fk_X3_18 sx71 rfl dX3_record_52 rfl ?_
    refine zq_iconst (x := 1) C dX3_record_55 rfl ik_1 ?_
    obtain ⟨h6, hJ⟩ := hJ
    refine zq_iadd C dX3_record_56 h6 ?_
    refine zq_put (kz := 2) C fk_X3_18 sx71 rfl dX3_record_57 rfl (fun M7 hM7 => ?_)
    have hJ := hJ M7 hM7
    exact zq_vret C rfl hJ dX3_record_60
  refine zq_aload_n (i := 0) C dX3_record_0 rfl rfl ?_
  refine zq_get (kz := 2) C fk_X3_18 sx71 rfl dX3_record_1 rfl ?_
  refine zq_iconst (x := 4) C dX3_record_4 rfl ik_4 ?_
  refine zq_icmp_ne (tgt := 30) C dX3_record_5 rfl (fun h13 => ?_) (fun h13 => ?_)
  · have hJ := hJ.1 h13
    exact hj30 _ hJ
  · have hJ := hJ.2 h13
    refine zq_aload_n (i := 0) C dX3_record_8 rfl rfl ?_
    refine zq_aload_n (i := 0) C dX3_record_9 rfl rfl ?_
    refine zq_get (kz := 1) C fk_X3_22 sx71 rfl dX3_record_10 rfl ?_
    refine zq_iconst (x := 1) C dX3_record_13 rfl ik_1 ?_
    obtain ⟨h8, hJ⟩ := hJ
    refine zq_iadd C dX3_record_14 h8 ?_
    refine zq_iconst (x := 4) C dX3_record_15 rfl ik_4 ?_
    obtain ⟨h9, hJ⟩ := hJ
    refine zq_irem C dX3_record_16 h9 (by decide) ?_
    refine zq_put (kz := 1) C fk_X3_22 sx71 rfl dX3_record_17 rfl (fun M10 hM10 => ?_)
    have hJ := hJ M10 hM10
    refine zq_aload_n (i := 0) C dX3_record_20 rfl rfl ?_
    refine zq_dup C dX3_record_21 rfl ?_
    refine zq_get (kz := 2) C fk_X3_18 sx71 rfl dX3_record_22 rfl ?_
    refine zq_iconst (x := 1) C dX3_record_25 rfl ik_1 ?_
    obtain ⟨h11, hJ⟩ := hJ
    refine zq_isub C dX3_record_26 h11 ?_
    refine zq_put (kz := 2) C fk_X3_18 sx71 rfl dX3_record_27 rfl (fun M12 hM12 => ?_)
    have hJ := hJ M12 hM12
    exact hj30 _ hJ
set_option maxRecDepth 100000 in
set_option maxHeartbeats 4000000 in
theorem wB_settle (l : Launch) (a1 : Int) (M : zM) {Φ : Int → zM → Prop} (hJ : jB_settle a1 M Φ) : zMet l yX7_settle cX7_settle 2 (some .int) 3 60 shX [zr 70, zi a1] M (zI Φ) := by
  refine zq_enter [some (zr 70), some (zi a1)] (by decide) rfl (Nat.le_of_ble_eq_true rfl) rfl (fun X C => ?_)
  unfold jB_settle at hJ
  refine zq_iload_n (i := 1) C dX7_settle_0 rfl rfl ?_
  refine zq_if_lt (tgt := 26) C dX7_settle_1 rfl (fun h3 => ?_) (fun h3 => ?_)
  · have hJ := hJ.1 h3
    refine zq_iload_n (i := 1) C dX7_settle_26 rfl rfl ?_
    exact zq_iret C rfl ⟨_, rfl, hJ⟩ dX7_settle_27
  · have hJ := hJ.2 h3
    refine zq_aload_n (i := 0) C dX7_settle_4 rfl rfl ?_
    refine zq_getr C fk_X7_25 sx70 rfl dX7_settle_5 ?_
    refine zq_aload_n (i := 0) C dX7_settle_8 rfl rfl ?_
    refine zq_getr C fk_X7_10 sx70 rfl dX7_settle_9 ?_
    refine zq_callVv C [zr 0] (wH_record l zch0 _  hJ) ck_X7_314 iv_X3_record rfl sx71 rfl rfl rfl rfl rfl rfl dX7_settle_12 (fun M1 hJ => ?_)
    refine zq_aload_n (i := 0) C dX7_settle_15 rfl rfl ?_
    refine zq_getr C fk_X7_10 sx70 rfl dX7_settle_16 ?_
    refine zq_aload_n (i := 0) C dX7_settle_19 rfl rfl ?_
    refine zq_getr C fk_X7_16 sx70 rfl dX7_settle_20 ?_
    refine zq_callVv C [zr 10] (wC_copyFrom l zch0 zch10 _  hJ) ck_X7_64 iv_X0_copyFrom rfl sx0 rfl rfl rfl rfl rfl rfl dX7_settle_23 (fun M2 hJ => ?_)
    refine zq_iload_n (i := 1) C dX7_settle_26 rfl rfl ?_
    exact zq_iret C rfl ⟨_, rfl, hJ⟩ dX7_settle_27
set_option maxRecDepth 100000 in
set_option maxHeartbeats 4000000 in
theorem wB_bar (l : Launch) (a1 a2 a3 : Int) (M : zM) {Φ : Int → zM → Prop} (hJ : jB_bar a1 a2 a3 M Φ) : zMet l yX7_bar cX7_bar 4 (some .int) 4 92 shX [zr 70, zi a1, zi a2, zi a3] M (zI Φ) := by
  refine zq_enter [some (zr 70), some (zi a1), some (zi a2), some (zi a3)] (by decide) rfl (Nat.le_of_ble_eq_true rfl) rfl (fun X C => ?_)
  unfold jB_bar at hJ
  refine zq_aload_n (i := 0) C dX7_bar_0 rfl rfl ?_
  refine zq_getr C fk_X7_16 sx70 rfl dX7_bar_1 ?_
  refine zq_aload_n (i := 0) C dX7_bar_4 rfl rfl ?_
  refine zq_getr C fk_X7_10 sx70 rfl dX7_bar_5 ?_
  refine zq_callVv C [zr 0] (wC_copyFrom l zch10 zch0 _  hJ) ck_X7_64 iv_X0_copyFrom rfl sx10 rfl rfl rfl rfl rfl rfl dX7_bar_8 (fun M1 hJ => ?_)
  refine zq_aload_n (i := 0) C dX7_bar_11 rfl rfl ?_
  refine zq_aload_n (i := 0) C dX7_bar_12 rfl rfl ?_
  refine zq_getr C fk_X7_16 sx70 rfl dX7_bar_13 ?_
  refine zq_iload_n (i := 1) C dX7_bar_16 rfl rfl ?_
  refine zq_iload_n (i := 2) C dX7_bar_17 rfl rfl ?_
  refine zq_iload_n (i := 3) C dX7_bar_18 rfl rfl ?_
  refine zq_callVi C [zi a1, zi a2, zi a3] (wC_addBar l zch10 _ _ _ _  hJ) ck_X7_68 iv_X0_addBar rfl sx10 rfl rfl rfl rfl rfl rfl dX7_bar_19 (fun r2 M3 hJ => ?_)
  refine zq_callVi C [zi r2] (wB_settle l _ _  hJ) ck_X7_72 iv_X7_settle rfl sx70 rfl rfl rfl rfl rfl rfl dX7_bar_22 (fun r4 M5 hJ => ?_)
  exact zq_iret C rfl ⟨_, rfl, hJ⟩ dX7_bar_25
set_option maxRecDepth 100000 in
set_option maxHeartbeats 4000000 in
theorem wC_slotOf (l : Launch) {b : Nat} (hb : zCh b) (a1 : Int) (M : zM) {Φ : Int → Prop} (hJ : jC_slotOf b a1 M Φ) : zMet l yX0_slotOf cX0_slotOf 3 (some .int) 0 0 shX [zr b, zi a1] M (zI (fun z M' => M = M' ∧ Φ z)) := by
  refine zq_enter [some (zr b), some (zi a1), none] (by decide) rfl (Nat.le_of_ble_eq_true rfl) rfl (fun X C => ?_)
  unfold jC_slotOf at hJ
  have hl2 : ∀ (s : Int), zwh (fun K s => jC_slotOf_L2 b a1 K Φ M (s)) s → zG X M 2 [some (zr b), some (zi a1), some (zi s)] [] := by
    refine zwh_sound ?_
    intro K2 s hK2 hJ
    obtain ⟨x2, rfl⟩ : ∃ z, z = s := ⟨_, rfl⟩
    have hJ : jC_slotOf_L2 b a1 K2 Φ M x2 := hJ
    show zG X M 2 [some (zr b), some (zi a1), some (zi x2)] []
    unfold jC_slotOf_L2 at hJ
    refine zq_iload_n (i := 2) C dX0_slotOf_2 rfl rfl ?_
    refine zq_aload_n (i := 0) C dX0_slotOf_3 rfl rfl ?_
    refine zq_get (kz := 0) C fk_X0_45 (zs0 hb) rfl dX0_slotOf_4 rfl ?_
    refine zq_icmp_ge (tgt := 28) C dX0_slotOf_7 rfl (fun h4 => ?_) (fun h4 => ?_)
    · have hJ := hJ.1 h4
      refine zq_iconst (x := (-1)) C dX0_slotOf_28 rfl ik_m1 ?_
      exact zq_iret C rfl ⟨_, rfl, rfl, hJ⟩ dX0_slotOf_29
    · have hJ := hJ.2 h4
      refine zq_aload_n (i := 0) C dX0_slotOf_10 rfl rfl ?_
      refine zq_getr C fk_X0_9 (zs0 hb) rfl dX0_slotOf_11 ?_
      refine zq_iload_n (i := 2) C dX0_slotOf_14 rfl rfl ?_
      obtain ⟨h1, h1', hJ⟩ := hJ
      refine zq_iald C (zs1 hb) h1 h1' dX0_slotOf_15 ?_
      refine zq_iload_n (i := 1) C dX0_slotOf_16 rfl rfl ?_
      refine zq_icmp_ne (tgt := 22) C dX0_slotOf_17 rfl (fun h3 => ?_) (fun h3 => ?_)
      · have hJ := hJ.1 h3
        obtain ⟨hv2_2, hJ⟩ := hJ
        refine zq_iinc (y := x2 + 1) (lv' := [some (zr b), some (zi a1), some (zi (x2 + 1))]) C dX0_slotOf_22 rfl rfl hv2_2 rfl ?_
        obtain ⟨v2_2, ev2_2⟩ : ∃ z, z = x2 + 1 := ⟨_, rfl⟩
        rw [← ev2_2]
        have hJ := hJ v2_2 ev2_2
        refine zq_goto (tgt := 2) C dX0_slotOf_25 rfl ?_
        exact hK2 _ hJ
      · have hJ := hJ.2 h3
        refine zq_iload_n (i := 2) C dX0_slotOf_20 rfl rfl ?_
        exact zq_iret C rfl ⟨_, rfl, rfl, hJ⟩ dX0_slotOf_21
  refine zq_iconst (x := 0) C dX0_slotOf_0 rfl ik_0 ?_
  refine zq_istore_n (i := 2) (lv' := [some (zr b), some (zi a1), some (zi 0)]) C dX0_slotOf_1 rfl (Nat.le_of_ble_eq_true rfl) rfl ?_
  exact hl2 _ hJ
set_option maxRecDepth 100000 in
set_option maxHeartbeats 4000000 in
theorem wC_hasArrow (l : Launch) {b : Nat} (hb : zCh b) (a1 a2 : Int) (M : zM) {Φ : Int → Prop} (hJ : jC_hasArrow b a1 a2 M Φ) : zMet l yX0_hasArrow cX0_hasArrow 4 (some .boolean) 0 0 shX [zr b, zi a1, zi a2] M (zI (fun z M' => M = M' ∧ Φ z)) := by
  refine zq_enter [some (zr b), some (zi a1), some (zi a2), none] (by decide) rfl (Nat.le_of_ble_eq_true rfl) rfl (fun X C => ?_)
  unfold jC_hasArrow at hJ
  have hl2 : ∀ (s : Int), zwh (fun K s => jC_hasArrow_L2 b a1 a2 K Φ M (s)) s → zG X M 2 [some (zr b), some (zi a1), some (zi a2), some (zi s)] [] := by
    refine zwh_sound ?_
    intro K2 s hK2 hJ
    obtain ⟨x3, rfl⟩ : ∃ z, z = s := ⟨_, rfl⟩
    have hJ : jC_hasArrow_L2 b a1 a2 K2 Φ M x3 := hJ
    show zG X M 2 [some (zr b), some (zi a1), some (zi a2), some (zi x3)] []
    unfold jC_hasArrow_L2 at hJ
    refine zq_iload_n (i := 3) C dX0_hasArrow_2 rfl rfl ?_
    refine zq_aload_n (i := 0) C dX0_hasArrow_3 rfl rfl ?_
    refine zq_get (kz := 6) C fk_X0_58 (zs0 hb) rfl dX0_hasArrow_4 rfl ?_
    refine zq_icmp_ge (tgt := 38) C dX0_hasArrow_7 rfl (fun h7 => ?_) (fun h7 => ?_)
    · have hJ := hJ.1 h7
      refine zq_iconst (x := 0) C dX0_hasArrow_38 rfl ik_0 ?_
      exact zq_zret C rfl (Or.inl rfl) ⟨_, rfl, rfl, hJ⟩ dX0_hasArrow_39
    · have hJ := hJ.2 h7
      refine zq_aload_n (i := 0) C dX0_hasArrow_10 rfl rfl ?_
      refine zq_getr C fk_X0_27 (zs0 hb) rfl dX0_hasArrow_11 ?_
      refine zq_iload_n (i := 3) C dX0_hasArrow_14 rfl rfl ?_
      obtain ⟨h1, h1', hJ⟩ := hJ
      refine zq_iald C (zs6 hb) h1 h1' dX0_hasArrow_15 ?_
      refine zq_iload_n (i := 1) C dX0_hasArrow_16 rfl rfl ?_
      refine zq_icmp_ne (tgt := 32) C dX0_hasArrow_17 rfl (fun h6 => ?_) (fun h6 => ?_)
      · have hJ := hJ.1 h6
        obtain ⟨hv3_2, hJ⟩ := hJ
        refine zq_iinc (y := x3 + 1) (lv' := [some (zr b), some (zi a1), some (zi a2), some (zi (x3 + 1))]) C dX0_hasArrow_32 rfl rfl hv3_2 rfl ?_
        obtain ⟨v3_2, ev3_2⟩ : ∃ z, z = x3 + 1 := ⟨_, rfl⟩
        rw [← ev3_2]
        have hJ := hJ v3_2 ev3_2
        refine zq_goto (tgt := 2) C dX0_hasArrow_35 rfl ?_
        exact hK2 _ hJ
      · have hJ := hJ.2 h6
        refine zq_aload_n (i := 0) C dX0_hasArrow_20 rfl rfl ?_
        refine zq_getr C fk_X0_30 (zs0 hb) rfl dX0_hasArrow_21 ?_
        refine zq_iload_n (i := 3) C dX0_hasArrow_24 rfl rfl ?_
        obtain ⟨h3, h3', hJ⟩ := hJ
        refine zq_iald C (zs7 hb) h3 h3' dX0_hasArrow_25 ?_
        refine zq_iload_n (i := 2) C dX0_hasArrow_26 rfl rfl ?_
        refine zq_icmp_ne (tgt := 32) C dX0_hasArrow_27 rfl (fun h5 => ?_) (fun h5 => ?_)
        · have hJ := hJ.1 h5
          obtain ⟨hv3_4, hJ⟩ := hJ
          refine zq_iinc (y := x3 + 1) (lv' := [some (zr b), some (zi a1), some (zi a2), some (zi (x3 + 1))]) C dX0_hasArrow_32 rfl rfl hv3_4 rfl ?_
          obtain ⟨v3_4, ev3_4⟩ : ∃ z, z = x3 + 1 := ⟨_, rfl⟩
          rw [← ev3_4]
          have hJ := hJ v3_4 ev3_4
          refine zq_goto (tgt := 2) C dX0_hasArrow_35 rfl ?_
          exact hK2 _ hJ
        · have hJ := hJ.2 h5
          refine zq_iconst (x := 1) C dX0_hasArrow_30 rfl ik_1 ?_
          exact zq_zret C rfl (Or.inr rfl) ⟨_, rfl, rfl, hJ⟩ dX0_hasArrow_31
  refine zq_iconst (x := 0) C dX0_hasArrow_0 rfl ik_0 ?_
  refine zq_istore_n (i := 3) (lv' := [some (zr b), some (zi a1), some (zi a2), some (zi 0)]) C dX0_hasArrow_1 rfl (Nat.le_of_ble_eq_true rfl) rfl ?_
  exact hl2 _ hJ
set_option maxRecDepth 100000 in
set_option maxHeartbeats 4000000 in
theorem wC_leadsOn (l : Launch) {b : Nat} (hb : zCh b) (a1 a2 : Int) (M : zM) {Φ : Int → Prop} (hJ : jC_leadsOn b a1 a2 M Φ) : zMet l yX0_leadsOn cX0_leadsOn 7 (some .boolean) 0 0 shX [zr b, zi a1, zi a2] M (zI (fun z M' => M = M' ∧ Φ z)) := by
  refine zq_enter [some (zr b), some (zi a1), some (zi a2), none, none, none, none] (by decide) rfl (Nat.le_of_ble_eq_true rfl) rfl (fun X C => ?_)
  unfold jC_leadsOn at hJ
  have hj79 : ∀ (x3 : Int), jC_leadsOn_J79 b a1 a2 Φ x3 M → zG X M 79 [some (zr b), some (zi a1), some (zi a2), some (zi x3), none, none, none] [] := by
    intro x3 hJ
    unfold jC_leadsOn_J79 at hJ
    refine zq_iload_n (i := 3) C dX0_leadsOn_79 rfl rfl ?_
    refine zq_iload_n (i := 2) C dX0_leadsOn_80 rfl rfl ?_
    refine zq_ishr C dX0_leadsOn_81 ?_
    refine zq_iconst (x := 1) C dX0_leadsOn_82 rfl ik_1 ?_
    refine zq_iand C dX0_leadsOn_83 ?_
    refine zq_iconst (x := 1) C dX0_leadsOn_84 rfl ik_1 ?_
    refine zq_icmp_ne (tgt := 92) C dX0_leadsOn_85 rfl (fun h2 => ?_) (fun h2 => ?_)
    · have hJ := hJ.1 h2
      refine zq_iconst (x := 0) C dX0_leadsOn_92 rfl ik_0 ?_
      exact zq_zret C rfl (Or.inl rfl) ⟨_, rfl, rfl, hJ⟩ dX0_leadsOn_93
    · have hJ := hJ.2 h2
      refine zq_iconst (x := 1) C dX0_leadsOn_88 rfl ik_1 ?_
      refine zq_goto (tgt := 93) C dX0_leadsOn_89 rfl ?_
      exact zq_zret C rfl (Or.inr rfl) ⟨_, rfl, rfl, hJ⟩ dX0_leadsOn_93
  have hl7 : ∀ (s : Int × Int), zwh (fun K s => jC_leadsOn_L7 b a1 a2 K Φ M (s.1) (s.2)) s → zG X M 7 [some (zr b), some (zi a1), some (zi a2), some (zi (s.1)), some (zi (s.2)), none, none] [] := by
    refine zwh_sound ?_
    intro K7 s hK7 hJ
    obtain ⟨x3, x4⟩ := s
    have hJ : jC_leadsOn_L7 b a1 a2 K7 Φ M x3 x4 := hJ
    show zG X M 7 [some (zr b), some (zi a1), some (zi a2), some (zi x3), some (zi x4), none, none] []
    unfold jC_leadsOn_L7 at hJ
    have hl22 : ∀ (x4 x5 : Int) (s : Int × Int), zwh (fun K s => jC_leadsOn_L22 b a1 a2 K7 K Φ x4 x5 M (s.1) (s.2)) s → zG X M 22 [some (zr b), some (zi a1), some (zi a2), some (zi (s.1)), some (zi x4), some (zi x5), some (zi (s.2))] [] := by
      intro x4 x5
      refine zwh_sound ?_
      intro K22 s hK22 hJ
      obtain ⟨x3, x6⟩ := s
      have hJ : jC_leadsOn_L22 b a1 a2 K7 K22 Φ x4 x5 M x3 x6 := hJ
      show zG X M 22 [some (zr b), some (zi a1), some (zi a2), some (zi x3), some (zi x4), some (zi x5), some (zi x6)] []
      unfold jC_leadsOn_L22 at hJ
      refine zq_iload C dX0_leadsOn_22 rfl ?_
      refine zq_aload_n (i := 0) C dX0_leadsOn_24 rfl rfl ?_
      refine zq_get (kz := 6) C fk_X0_58 (zs0 hb) rfl dX0_leadsOn_25 rfl ?_
      refine zq_icmp_ge (tgt := 64) C dX0_leadsOn_28 rfl (fun h11 => ?_) (fun h11 => ?_)
      · have hJ := hJ.1 h11
        refine zq_iload_n (i := 3) C dX0_leadsOn_64 rfl rfl ?_
        refine zq_iload C dX0_leadsOn_65 rfl ?_
        refine zq_icmp_ne (tgt := 73) C dX0_leadsOn_67 rfl (fun h4 => ?_) (fun h4 => ?_)
        · have hJ := hJ.1 h4
          obtain ⟨hv4_3, hJ⟩ := hJ
          refine zq_iinc (y := x4 + 1) (lv' := [some (zr b), some (zi a1), some (zi a2), some (zi x3), some (zi (x4 + 1)), some (zi x5), some (zi x6)]) C dX0_leadsOn_73 rfl rfl hv4_3 rfl ?_
          obtain ⟨v4_3, ev4_3⟩ : ∃ z, z = x4 + 1 := ⟨_, rfl⟩
          rw [← ev4_3]
          have hJ := hJ v4_3 ev4_3
          refine zq_goto (tgt := 7) C dX0_leadsOn_76 rfl ?_
          refine zq_weak [some (zr b), some (zi a1), some (zi a2), some (zi x3), some (zi v4_3), none, none] ⟨Or.inr rfl, Or.inr rfl, Or.inr rfl, Or.inr rfl, Or.inr rfl, Or.inl rfl, Or.inl rfl, trivial⟩ ?_
          exact hK7 _ hJ
        · have hJ := hJ.2 h4
          refine zq_goto (tgt := 79) C dX0_leadsOn_70 rfl ?_
          refine zq_weak [some (zr b), some (zi a1), some (zi a2), some (zi x3), none, none, none] ⟨Or.inr rfl, Or.inr rfl, Or.inr rfl, Or.inr rfl, Or.inl rfl, Or.inl rfl, Or.inl rfl, trivial⟩ ?_
          exact hj79 _ hJ
      · have hJ := hJ.2 h11
        refine zq_iload_n (i := 3) C dX0_leadsOn_31 rfl rfl ?_
        refine zq_aload_n (i := 0) C dX0_leadsOn_32 rfl rfl ?_
        refine zq_getr C fk_X0_27 (zs0 hb) rfl dX0_leadsOn_33 ?_
        refine zq_iload C dX0_leadsOn_36 rfl ?_
        obtain ⟨h5, h5', hJ⟩ := hJ
        refine zq_iald C (zs6 hb) h5 h5' dX0_leadsOn_38 ?_
        refine zq_ishr C dX0_leadsOn_39 ?_
        refine zq_iconst (x := 1) C dX0_leadsOn_40 rfl ik_1 ?_
        refine zq_iand C dX0_leadsOn_41 ?_
        refine zq_iconst (x := 1) C dX0_leadsOn_42 rfl ik_1 ?_
        refine zq_icmp_ne (tgt := 58) C dX0_leadsOn_43 rfl (fun h10 => ?_) (fun h10 => ?_)
        · have hJ := hJ.1 h10
          obtain ⟨hv6_6, hJ⟩ := hJ
          refine zq_iinc (y := x6 + 1) (lv' := [some (zr b), some (zi a1), some (zi a2), some (zi x3), some (zi x4), some (zi x5), some (zi (x6 + 1))]) C dX0_leadsOn_58 rfl rfl hv6_6 rfl ?_
          obtain ⟨v6_6, ev6_6⟩ : ∃ z, z = x6 + 1 := ⟨_, rfl⟩
          rw [← ev6_6]
          have hJ := hJ v6_6 ev6_6
          refine zq_goto (tgt := 22) C dX0_leadsOn_61 rfl ?_
          exact hK22 _ hJ
        · have hJ := hJ.2 h10
          refine zq_iload_n (i := 3) C dX0_leadsOn_46 rfl rfl ?_
          refine zq_iconst (x := 1) C dX0_leadsOn_47 rfl ik_1 ?_
          refine zq_aload_n (i := 0) C dX0_leadsOn_48 rfl rfl ?_
          refine zq_getr C fk_X0_30 (zs0 hb) rfl dX0_leadsOn_49 ?_
          refine zq_iload C dX0_leadsOn_52 rfl ?_
          obtain ⟨h7, h7', hJ⟩ := hJ
          refine zq_iald C (zs7 hb) h7 h7' dX0_leadsOn_54 ?_
          refine zq_ishl C dX0_leadsOn_55 ?_
          refine zq_ior C dX0_leadsOn_56 ?_
          refine zq_istoreN_n (i := 3) C (fun v => [some (zr b), some (zi a1), some (zi a2), some (zi v), some (zi x4), some (zi x5), some (zi x6)]) dX0_leadsOn_57 rfl (Nat.le_of_ble_eq_true rfl) (fun _ => rfl) (fun v3_8 hv3_8 => ?_)
          have hJ := hJ v3_8 hv3_8
          obtain ⟨hv6_9, hJ⟩ := hJ
          refine zq_iinc (y := x6 + 1) (lv' := [some (zr b), some (zi a1), some (zi a2), some (zi v3_8), some (zi x4), some (zi x5), some (zi (x6 + 1))]) C dX0_leadsOn_58 rfl rfl hv6_9 rfl ?_
          obtain ⟨v6_9, ev6_9⟩ : ∃ z, z = x6 + 1 := ⟨_, rfl⟩
          rw [← ev6_9]
          have hJ := hJ v6_9 ev6_9
          refine zq_goto (tgt := 22) C dX0_leadsOn_61 rfl ?_
          exact hK22 _ hJ
    refine zq_iload C dX0_leadsOn_7 rfl ?_
    refine zq_aload_n (i := 0) C dX0_leadsOn_9 rfl rfl ?_
    refine zq_get (kz := 0) C fk_X0_45 (zs0 hb) rfl dX0_leadsOn_10 rfl ?_
    refine zq_icmp_ge (tgt := 79) C dX0_leadsOn_13 rfl (fun h12 => ?_) (fun h12 => ?_)
    · have hJ := hJ.1 h12
      refine zq_weak [some (zr b), some (zi a1), some (zi a2), some (zi x3), none, none, none] ⟨Or.inr rfl, Or.inr rfl, Or.inr rfl, Or.inr rfl, Or.inl rfl, Or.inl rfl, Or.inl rfl, trivial⟩ ?_
      exact hj79 _ hJ
    · have hJ := hJ.2 h12
      refine zq_iload_n (i := 3) C dX0_leadsOn_16 rfl rfl ?_
      refine zq_istore (lv' := [some (zr b), some (zi a1), some (zi a2), some (zi x3), some (zi x4), some (zi x3), none]) C dX0_leadsOn_17 (Nat.le_of_ble_eq_true rfl) rfl ?_
      refine zq_iconst (x := 0) C dX0_leadsOn_19 rfl ik_0 ?_
      refine zq_istore (lv' := [some (zr b), some (zi a1), some (zi a2), some (zi x3), some (zi x4), some (zi x3), some (zi 0)]) C dX0_leadsOn_20 (Nat.le_of_ble_eq_true rfl) rfl ?_
      exact hl22 _ _ _ hJ
  refine zq_iconst (x := 1) C dX0_leadsOn_0 rfl ik_1 ?_
  refine zq_iload_n (i := 1) C dX0_leadsOn_1 rfl rfl ?_
  refine zq_ishl C dX0_leadsOn_2 ?_
  refine zq_istoreN_n (i := 3) C (fun v => [some (zr b), some (zi a1), some (zi a2), some (zi v), none, none, none]) dX0_leadsOn_3 rfl (Nat.le_of_ble_eq_true rfl) (fun _ => rfl) (fun v3_1 hv3_1 => ?_)
  have hJ := hJ v3_1 hv3_1
  refine zq_iconst (x := 0) C dX0_leadsOn_4 rfl ik_0 ?_
  refine zq_istore (lv' := [some (zr b), some (zi a1), some (zi a2), some (zi v3_1), some (zi 0), none, none]) C dX0_leadsOn_5 (Nat.le_of_ble_eq_true rfl) rfl ?_
  exact hl7 _ hJ
set_option maxRecDepth 100000 in
set_option maxHeartbeats 4000000 in
theorem wC_addArrow (l : Launch) {b : Nat} (hb : zCh b) (a1 a2 : Int) (M : zM) {Φ : Int → zM → Prop} (hJ : jC_addArrow b a1 a2 M Φ) : zMet l yX0_addArrow cX0_addArrow 5 (some .int) 1 26 shX [zr b, zi a1, zi a2] M (zI Φ) := by
  refine zq_enter [some (zr b), some (zi a1), some (zi a2), none, none] (by decide) rfl (Nat.le_of_ble_eq_true rfl) rfl (fun X C => ?_)
  unfold jC_addArrow at hJ
  refine zq_aload_n (i := 0) C dX0_addArrow_0 rfl rfl ?_
  refine zq_iload_n (i := 1) C dX0_addArrow_1 rfl rfl ?_
  refine zq_callVi C [zi a1] (wC_slotOf l hb _ _  hJ) ck_X0_78 iv_X0_slotOf rfl (zs0 hb) rfl rfl rfl rfl rfl rfl dX0_addArrow_2 (fun r1 N2 hN2 => ?_)
  obtain ⟨rfl, hJ⟩ := hN2
  refine zq_istore_n (i := 3) (lv' := [some (zr b), some (zi a1), some (zi a2), some (zi r1), none]) C dX0_addArrow_5 rfl (Nat.le_of_ble_eq_true rfl) rfl ?_
  refine zq_aload_n (i := 0) C dX0_addArrow_6 rfl rfl ?_
  refine zq_iload_n (i := 2) C dX0_addArrow_7 rfl rfl ?_
  refine zq_callVi C [zi a2] (wC_slotOf l hb _ _  hJ) ck_X0_78 iv_X0_slotOf rfl (zs0 hb) rfl rfl rfl rfl rfl rfl dX0_addArrow_8 (fun r3 N4 hN4 => ?_)
  obtain ⟨rfl, hJ⟩ := hN4
  refine zq_istore (lv' := [some (zr b), some (zi a1), some (zi a2), some (zi r1), some (zi r3)]) C dX0_addArrow_11 (Nat.le_of_ble_eq_true rfl) rfl ?_
  refine zq_iload_n (i := 3) C dX0_addArrow_13 rfl rfl ?_
  refine zq_if_lt (tgt := 22) C dX0_addArrow_14 rfl (fun h26 => ?_) (fun h26 => ?_)
  · have hJ := hJ.1 h26
    refine zq_iconst (x := (-1)) C dX0_addArrow_22 rfl ik_m1 ?_
    exact zq_iret C rfl ⟨_, rfl, hJ⟩ dX0_addArrow_23
  · have hJ := hJ.2 h26
    refine zq_iload C dX0_addArrow_17 rfl ?_
    refine zq_if_ge (tgt := 24) C dX0_addArrow_19 rfl (fun h25 => ?_) (fun h25 => ?_)
    · have hJ := hJ.1 h25
      refine zq_iload_n (i := 3) C dX0_addArrow_24 rfl rfl ?_
      refine zq_iload C dX0_addArrow_25 rfl ?_
      refine zq_icmp_eq (tgt := 50) C dX0_addArrow_27 rfl (fun h24 => ?_) (fun h24 => ?_)
      · have hJ := hJ.1 h24
        refine zq_bipush (x := (-4)) C dX0_addArrow_50 bi_m4 ik_m4 ?_
        exact zq_iret C rfl ⟨_, rfl, hJ⟩ dX0_addArrow_52
      · have hJ := hJ.2 h24
        refine zq_aload_n (i := 0) C dX0_addArrow_30 rfl rfl ?_
        refine zq_iload_n (i := 3) C dX0_addArrow_31 rfl rfl ?_
        refine zq_iload C dX0_addArrow_32 rfl ?_
        refine zq_callVi C [zi r1, zi r3] (wC_hasArrow l hb _ _ _  hJ) ck_X0_82 iv_X0_hasArrow rfl (zs0 hb) rfl rfl rfl rfl rfl rfl dX0_addArrow_34 (fun r5 N6 hN6 => ?_)
        obtain ⟨rfl, hJ⟩ := hN6
        refine zq_if_ne (tgt := 50) C dX0_addArrow_37 rfl (fun h23 => ?_) (fun h23 => ?_)
        · have hJ := hJ.1 h23
          refine zq_bipush (x := (-4)) C dX0_addArrow_50 bi_m4 ik_m4 ?_
          exact zq_iret C rfl ⟨_, rfl, hJ⟩ dX0_addArrow_52
        · have hJ := hJ.2 h23
          refine zq_aload_n (i := 0) C dX0_addArrow_40 rfl rfl ?_
          refine zq_iload C dX0_addArrow_41 rfl ?_
          refine zq_iload_n (i := 3) C dX0_addArrow_43 rfl rfl ?_
          refine zq_callVi C [zi r3, zi r1] (wC_leadsOn l hb _ _ _  hJ) ck_X0_86 iv_X0_leadsOn rfl (zs0 hb) rfl rfl rfl rfl rfl rfl dX0_addArrow_44 (fun r7 N8 hN8 => ?_)
          obtain ⟨rfl, hJ⟩ := hN8
          refine zq_if_eq (tgt := 53) C dX0_addArrow_47 rfl (fun h22 => ?_) (fun h22 => ?_)
          · have hJ := hJ.1 h22
            refine zq_aload_n (i := 0) C dX0_addArrow_53 rfl rfl ?_
            refine zq_get (kz := 6) C fk_X0_58 (zs0 hb) rfl dX0_addArrow_54 rfl ?_
            refine zq_bipush (x := 40) C dX0_addArrow_57 bi_40 ik_40 ?_
            refine zq_icmp_ge (tgt := 72) C dX0_addArrow_59 rfl (fun h21 => ?_) (fun h21 => ?_)
            · have hJ := hJ.1 h21
              refine zq_bipush (x := (-3)) C dX0_addArrow_72 bi_m3 ik_m3 ?_
              exact zq_iret C rfl ⟨_, rfl, hJ⟩ dX0_addArrow_74
            · have hJ := hJ.2 h21
              refine zq_aload_n (i := 0) C dX0_addArrow_62 rfl rfl ?_
              refine zq_get (kz := 7) C fk_X0_61 (zs0 hb) rfl dX0_addArrow_63 rfl ?_
              refine zq_sipush (x := 200) C dX0_addArrow_66 si_200 ik_200 ?_
              refine zq_icmp_lt (tgt := 75) C dX0_addArrow_69 rfl (fun h20 => ?_) (fun h20 => ?_)
              · have hJ := hJ.1 h20
                refine zq_aload_n (i := 0) C dX0_addArrow_75 rfl rfl ?_
                refine zq_getr C fk_X0_24 (zs0 hb) rfl dX0_addArrow_76 ?_
                refine zq_aload_n (i := 0) C dX0_addArrow_79 rfl rfl ?_
                refine zq_get (kz := 6) C fk_X0_58 (zs0 hb) rfl dX0_addArrow_80 rfl ?_
                refine zq_aload_n (i := 0) C dX0_addArrow_83 rfl rfl ?_
                refine zq_get (kz := 7) C fk_X0_61 (zs0 hb) rfl dX0_addArrow_84 rfl ?_
                obtain ⟨h9, h9', hJ⟩ := hJ
                refine zq_iast C (zs5 hb) h9 h9' dX0_addArrow_87 (fun M10 hM10 => ?_)
                have hJ := hJ M10 hM10
                refine zq_aload_n (i := 0) C dX0_addArrow_88 rfl rfl ?_
                refine zq_getr C fk_X0_27 (zs0 hb) rfl dX0_addArrow_89 ?_
                refine zq_aload_n (i := 0) C dX0_addArrow_92 rfl rfl ?_
                refine zq_get (kz := 6) C fk_X0_58 (zs0 hb) rfl dX0_addArrow_93 rfl ?_
                refine zq_iload_n (i := 3) C dX0_addArrow_96 rfl rfl ?_
                obtain ⟨h11, h11', hJ⟩ := hJ
                refine zq_iast C (zs6 hb) h11 h11' dX0_addArrow_97 (fun M12 hM12 => ?_)
                have hJ := hJ M12 hM12
                refine zq_aload_n (i := 0) C dX0_addArrow_98 rfl rfl ?_
                refine zq_getr C fk_X0_30 (zs0 hb) rfl dX0_addArrow_99 ?_
                refine zq_aload_n (i := 0) C dX0_addArrow_102 rfl rfl ?_
                refine zq_get (kz := 6) C fk_X0_58 (zs0 hb) rfl dX0_addArrow_103 rfl ?_
                refine zq_iload C dX0_addArrow_106 rfl ?_
                obtain ⟨h13, h13', hJ⟩ := hJ
                refine zq_iast C (zs7 hb) h13 h13' dX0_addArrow_108 (fun M14 hM14 => ?_)
                have hJ := hJ M14 hM14
                refine zq_aload_n (i := 0) C dX0_addArrow_109 rfl rfl ?_
                refine zq_dup C dX0_addArrow_110 rfl ?_
                refine zq_get (kz := 6) C fk_X0_58 (zs0 hb) rfl dX0_addArrow_111 rfl ?_
                refine zq_iconst (x := 1) C dX0_addArrow_114 rfl ik_1 ?_
                obtain ⟨h15, hJ⟩ := hJ
                refine zq_iadd C dX0_addArrow_115 h15 ?_
                refine zq_put (kz := 6) C fk_X0_58 (zs0 hb) rfl dX0_addArrow_116 rfl (fun M16 hM16 => ?_)
                have hJ := hJ M16 hM16
                refine zq_aload_n (i := 0) C dX0_addArrow_119 rfl rfl ?_
                refine zq_dup C dX0_addArrow_120 rfl ?_
                refine zq_get (kz := 7) C fk_X0_61 (zs0 hb) rfl dX0_addArrow_121 rfl ?_
                refine zq_iconst (x := 1) C dX0_addArrow_124 rfl ik_1 ?_
                obtain ⟨h17, hJ⟩ := hJ
                refine zq_iadd C dX0_addArrow_125 h17 ?_
                refine zq_put (kz := 7) C fk_X0_61 (zs0 hb) rfl dX0_addArrow_126 rfl (fun M18 hM18 => ?_)
                have hJ := hJ M18 hM18
                refine zq_aload_n (i := 0) C dX0_addArrow_129 rfl rfl ?_
                refine zq_get (kz := 7) C fk_X0_61 (zs0 hb) rfl dX0_addArrow_130 rfl ?_
                refine zq_iconst (x := 1) C dX0_addArrow_133 rfl ik_1 ?_
                obtain ⟨h19, hJ⟩ := hJ
                refine zq_isub C dX0_addArrow_134 h19 ?_
                exact zq_iret C rfl ⟨_, rfl, hJ⟩ dX0_addArrow_135
              · have hJ := hJ.2 h20
                refine zq_bipush (x := (-3)) C dX0_addArrow_72 bi_m3 ik_m3 ?_
                exact zq_iret C rfl ⟨_, rfl, hJ⟩ dX0_addArrow_74
          · have hJ := hJ.2 h22
            refine zq_bipush (x := (-4)) C dX0_addArrow_50 bi_m4 ik_m4 ?_
            exact zq_iret C rfl ⟨_, rfl, hJ⟩ dX0_addArrow_52
    · have hJ := hJ.2 h25
      refine zq_iconst (x := (-1)) C dX0_addArrow_22 rfl ik_m1 ?_
      exact zq_iret C rfl ⟨_, rfl, hJ⟩ dX0_addArrow_23
set_option maxRecDepth 100000 in
set_option maxHeartbeats 4000000 in
theorem wB_arrow (l : Launch) (a1 a2 : Int) (M : zM) {Φ : Int → zM → Prop} (hJ : jB_arrow a1 a2 M Φ) : zMet l yX7_arrow cX7_arrow 3 (some .int) 4 81 shX [zr 70, zi a1, zi a2] M (zI Φ) := by
  refine zq_enter [some (zr 70), some (zi a1), some (zi a2)] (by decide) rfl (Nat.le_of_ble_eq_true rfl) rfl (fun X C => ?_)
  unfold jB_arrow at hJ
  refine zq_aload_n (i := 0) C dX7_arrow_0 rfl rfl ?_
  refine zq_getr C fk_X7_16 sx70 rfl dX7_arrow_1 ?_
  refine zq_aload_n (i := 0) C dX7_arrow_4 rfl rfl ?_
  refine zq_getr C fk_X7_10 sx70 rfl dX7_arrow_5 ?_
  refine zq_callVv C [zr 0] (wC_copyFrom l zch10 zch0 _  hJ) ck_X7_64 iv_X0_copyFrom rfl sx10 rfl rfl rfl rfl rfl rfl dX7_arrow_8 (fun M1 hJ => ?_)
  refine zq_aload_n (i := 0) C dX7_arrow_11 rfl rfl ?_
  refine zq_aload_n (i := 0) C dX7_arrow_12 rfl rfl ?_
  refine zq_getr C fk_X7_16 sx70 rfl dX7_arrow_13 ?_
  refine zq_iload_n (i := 1) C dX7_arrow_16 rfl rfl ?_
  refine zq_iload_n (i := 2) C dX7_arrow_17 rfl rfl ?_
  refine zq_callVi C [zi a1, zi a2] (wC_addArrow l zch10 _ _ _  hJ) ck_X7_76 iv_X0_addArrow rfl sx10 rfl rfl rfl rfl rfl rfl dX7_arrow_18 (fun r2 M3 hJ => ?_)
  refine zq_callVi C [zi r2] (wB_settle l _ _  hJ) ck_X7_72 iv_X7_settle rfl sx70 rfl rfl rfl rfl rfl rfl dX7_arrow_21 (fun r4 M5 hJ => ?_)
  exact zq_iret C rfl ⟨_, rfl, hJ⟩ dX7_arrow_24
set_option maxRecDepth 100000 in
set_option maxHeartbeats 4000000 in
theorem wC_dropArrow (l : Launch) {b : Nat} (hb : zCh b) (a1 : Int) (M : zM) {Φ : zM → Prop} (hJ : jC_dropArrow b a1 M Φ) : zMet l yX0_dropArrow cX0_dropArrow 3 none 0 0 shX [zr b, zi a1] M (zU Φ) := by
  refine zq_enter [some (zr b), some (zi a1), none] (by decide) rfl (Nat.le_of_ble_eq_true rfl) rfl (fun X C => ?_)
  unfold jC_dropArrow at hJ
  have hl12 : ∀ (s : Int × zM), zwh (fun K s => jC_dropArrow_L12 b a1 K Φ (s.1) (s.2)) s → zG X (s.2) 12 [some (zr b), some (zi a1), some (zi (s.1))] [] := by
    refine zwh_sound ?_
    intro K12 s hK12 hJ
    obtain ⟨x2, M⟩ := s
    have hJ : jC_dropArrow_L12 b a1 K12 Φ x2 M := hJ
    show zG X M 12 [some (zr b), some (zi a1), some (zi x2)] []
    unfold jC_dropArrow_L12 at hJ
    refine zq_iload_n (i := 2) C dX0_dropArrow_12 rfl rfl ?_
    refine zq_aload_n (i := 0) C dX0_dropArrow_13 rfl rfl ?_
    refine zq_get (kz := 6) C fk_X0_58 (zs0 hb) rfl dX0_dropArrow_14 rfl ?_
    refine zq_icmp_ge (tgt := 68) C dX0_dropArrow_17 rfl (fun h16 => ?_) (fun h16 => ?_)
    · have hJ := hJ.1 h16
      exact zq_vret C rfl hJ dX0_dropArrow_68
    · have hJ := hJ.2 h16
      refine zq_aload_n (i := 0) C dX0_dropArrow_20 rfl rfl ?_
      refine zq_getr C fk_X0_24 (zs0 hb) rfl dX0_dropArrow_21 ?_
      refine zq_iload_n (i := 2) C dX0_dropArrow_24 rfl rfl ?_
      refine zq_aload_n (i := 0) C dX0_dropArrow_25 rfl rfl ?_
      refine zq_getr C fk_X0_24 (zs0 hb) rfl dX0_dropArrow_26 ?_
      refine zq_iload_n (i := 2) C dX0_dropArrow_29 rfl rfl ?_
      refine zq_iconst (x := 1) C dX0_dropArrow_30 rfl ik_1 ?_
      obtain ⟨h3, hJ⟩ := hJ
      refine zq_iadd C dX0_dropArrow_31 h3 ?_
      obtain ⟨h4, h4', hJ⟩ := hJ
      refine zq_iald C (zs5 hb) h4 h4' dX0_dropArrow_32 ?_
      obtain ⟨h5, h5', hJ⟩ := hJ
      refine zq_iast C (zs5 hb) h5 h5' dX0_dropArrow_33 (fun M6 hM6 => ?_)
      have hJ := hJ M6 hM6
      refine zq_aload_n (i := 0) C dX0_dropArrow_34 rfl rfl ?_
      refine zq_getr C fk_X0_27 (zs0 hb) rfl dX0_dropArrow_35 ?_
      refine zq_iload_n (i := 2) C dX0_dropArrow_38 rfl rfl ?_
      refine zq_aload_n (i := 0) C dX0_dropArrow_39 rfl rfl ?_
      refine zq_getr C fk_X0_27 (zs0 hb) rfl dX0_dropArrow_40 ?_
      refine zq_iload_n (i := 2) C dX0_dropArrow_43 rfl rfl ?_
      refine zq_iconst (x := 1) C dX0_dropArrow_44 rfl ik_1 ?_
      obtain ⟨h7, hJ⟩ := hJ
      refine zq_iadd C dX0_dropArrow_45 h7 ?_
      obtain ⟨h8, h8', hJ⟩ := hJ
      refine zq_iald C (zs6 hb) h8 h8' dX0_dropArrow_46 ?_
      obtain ⟨h9, h9', hJ⟩ := hJ
      refine zq_iast C (zs6 hb) h9 h9' dX0_dropArrow_47 (fun M10 hM10 => ?_)
      have hJ := hJ M10 hM10
      refine zq_aload_n (i := 0) C dX0_dropArrow_48 rfl rfl ?_
      refine zq_getr C fk_X0_30 (zs0 hb) rfl dX0_dropArrow_49 ?_
      refine zq_iload_n (i := 2) C dX0_dropArrow_52 rfl rfl ?_
      refine zq_aload_n (i := 0) C dX0_dropArrow_53 rfl rfl ?_
      refine zq_getr C fk_X0_30 (zs0 hb) rfl dX0_dropArrow_54 ?_
      refine zq_iload_n (i := 2) C dX0_dropArrow_57 rfl rfl ?_
      refine zq_iconst (x := 1) C dX0_dropArrow_58 rfl ik_1 ?_
      obtain ⟨h11, hJ⟩ := hJ
      refine zq_iadd C dX0_dropArrow_59 h11 ?_
      obtain ⟨h12, h12', hJ⟩ := hJ
      refine zq_iald C (zs7 hb) h12 h12' dX0_dropArrow_60 ?_
      obtain ⟨h13, h13', hJ⟩ := hJ
      refine zq_iast C (zs7 hb) h13 h13' dX0_dropArrow_61 (fun M14 hM14 => ?_)
      have hJ := hJ M14 hM14
      obtain ⟨hv2_15, hJ⟩ := hJ
      refine zq_iinc (y := x2 + 1) (lv' := [some (zr b), some (zi a1), some (zi (x2 + 1))]) C dX0_dropArrow_62 rfl rfl hv2_15 rfl ?_
      obtain ⟨v2_15, ev2_15⟩ : ∃ z, z = x2 + 1 := ⟨_, rfl⟩
      rw [← ev2_15]
      have hJ := hJ v2_15 ev2_15
      refine zq_goto (tgt := 12) C dX0_dropArrow_65 rfl ?_
      exact hK12 _ hJ
  refine zq_aload_n (i := 0) C dX0_dropArrow_0 rfl rfl ?_
  refine zq_dup C dX0_dropArrow_1 rfl ?_
  refine zq_get (kz := 6) C fk_X0_58 (zs0 hb) rfl dX0_dropArrow_2 rfl ?_
  refine zq_iconst (x := 1) C dX0_dropArrow_5 rfl ik_1 ?_
  obtain ⟨h1, hJ⟩ := hJ
  refine zq_isub C dX0_dropArrow_6 h1 ?_
  refine zq_put (kz := 6) C fk_X0_58 (zs0 hb) rfl dX0_dropArrow_7 rfl (fun M2 hM2 => ?_)
  have hJ := hJ M2 hM2
  refine zq_iload_n (i := 1) C dX0_dropArrow_10 rfl rfl ?_
  refine zq_istore_n (i := 2) (lv' := [some (zr b), some (zi a1), some (zi a1)]) C dX0_dropArrow_11 rfl (Nat.le_of_ble_eq_true rfl) rfl ?_
  exact hl12 _ hJ
set_option maxRecDepth 100000 in
set_option maxHeartbeats 4000000 in
theorem wC_dropBar (l : Launch) {b : Nat} (hb : zCh b) (a1 : Int) (M : zM) {Φ : Int → zM → Prop} (hJ : jC_dropBar b a1 M Φ) : zMet l yX0_dropBar cX0_dropBar 4 (some .int) 1 22 shX [zr b, zi a1] M (zI Φ) := by
  refine zq_enter [some (zr b), some (zi a1), none, none] (by decide) rfl (Nat.le_of_ble_eq_true rfl) rfl (fun X C => ?_)
  unfold jC_dropBar at hJ
  have hl131 : ∀ (x2 : Int) (s : Int × zM), zwh (fun K s => jC_dropBar_L131 b a1 K Φ x2 (s.1) (s.2)) s → zG X (s.2) 131 [some (zr b), some (zi a1), some (zi x2), some (zi (s.1))] [] := by
    intro x2
    refine zwh_sound ?_
    intro K131 s hK131 hJ
    obtain ⟨x3, M⟩ := s
    have hJ : jC_dropBar_L131 b a1 K131 Φ x2 x3 M := hJ
    show zG X M 131 [some (zr b), some (zi a1), some (zi x2), some (zi x3)] []
    unfold jC_dropBar_L131 at hJ
    have hj185 : ∀ (x3 s1 s2 s3 : Int) (M : zM), jC_dropBar_J185 b a1 K131 Φ x2 x3 s1 s2 s3 M → zG X M 185 [some (zr b), some (zi a1), some (zi x2), some (zi x3)] [zi s3, zi s2, zi s1, zr (b + 7)] := by
      intro x3 s1 s2 s3 M hJ
      unfold jC_dropBar_J185 at hJ
      obtain ⟨h12, hJ⟩ := hJ
      refine zq_isub C dX0_dropBar_185 h12 ?_
      obtain ⟨h13, h13', hJ⟩ := hJ
      refine zq_iast C (zs7 hb) h13 h13' dX0_dropBar_186 (fun M14 hM14 => ?_)
      have hJ := hJ M14 hM14
      obtain ⟨hv3_15, hJ⟩ := hJ
      refine zq_iinc (y := x3 + 1) (lv' := [some (zr b), some (zi a1), some (zi x2), some (zi (x3 + 1))]) C dX0_dropBar_187 rfl rfl hv3_15 rfl ?_
      obtain ⟨v3_15, ev3_15⟩ : ∃ z, z = x3 + 1 := ⟨_, rfl⟩
      rw [← ev3_15]
      have hJ := hJ v3_15 ev3_15
      refine zq_goto (tgt := 131) C dX0_dropBar_190 rfl ?_
      exact hK131 _ hJ
    have hj161 : ∀ (x3 s1 s2 s3 : Int) (M : zM), jC_dropBar_J161 b a1 K131 Φ x2 x3 s1 s2 s3 M → zG X M 161 [some (zr b), some (zi a1), some (zi x2), some (zi x3)] [zi s3, zi s2, zi s1, zr (b + 6)] := by
      intro x3 s1 s2 s3 M hJ
      unfold jC_dropBar_J161 at hJ
      obtain ⟨h7, hJ⟩ := hJ
      refine zq_isub C dX0_dropBar_161 h7 ?_
      obtain ⟨h8, h8', hJ⟩ := hJ
      refine zq_iast C (zs6 hb) h8 h8' dX0_dropBar_162 (fun M9 hM9 => ?_)
      have hJ := hJ M9 hM9
      refine zq_aload_n (i := 0) C dX0_dropBar_163 rfl rfl ?_
      refine zq_getr C fk_X0_30 (zs0 hb) rfl dX0_dropBar_164 ?_
      refine zq_iload_n (i := 3) C dX0_dropBar_167 rfl rfl ?_
      refine zq_dup2 C dX0_dropBar_168 rfl rfl ?_
      obtain ⟨h10, h10', hJ⟩ := hJ
      refine zq_iald C (zs7 hb) h10 h10' dX0_dropBar_169 ?_
      refine zq_aload_n (i := 0) C dX0_dropBar_170 rfl rfl ?_
      refine zq_getr C fk_X0_30 (zs0 hb) rfl dX0_dropBar_171 ?_
      refine zq_iload_n (i := 3) C dX0_dropBar_174 rfl rfl ?_
      obtain ⟨h11, h11', hJ⟩ := hJ
      refine zq_iald C (zs7 hb) h11 h11' dX0_dropBar_175 ?_
      refine zq_iload_n (i := 1) C dX0_dropBar_176 rfl rfl ?_
      refine zq_icmp_le (tgt := 184) C dX0_dropBar_177 rfl (fun h16 => ?_) (fun h16 => ?_)
      · have hJ := hJ.1 h16
        refine zq_iconst (x := 0) C dX0_dropBar_184 rfl ik_0 ?_
        exact hj185 _ _ _ _ _ hJ
      · have hJ := hJ.2 h16
        refine zq_iconst (x := 1) C dX0_dropBar_180 rfl ik_1 ?_
        refine zq_goto (tgt := 185) C dX0_dropBar_181 rfl ?_
        exact hj185 _ _ _ _ _ hJ
    refine zq_iload_n (i := 3) C dX0_dropBar_131 rfl rfl ?_
    refine zq_aload_n (i := 0) C dX0_dropBar_132 rfl rfl ?_
    refine zq_get (kz := 6) C fk_X0_58 (zs0 hb) rfl dX0_dropBar_133 rfl ?_
    refine zq_icmp_ge (tgt := 193) C dX0_dropBar_136 rfl (fun h18 => ?_) (fun h18 => ?_)
    · have hJ := hJ.1 h18
      refine zq_iload_n (i := 2) C dX0_dropBar_193 rfl rfl ?_
      exact zq_iret C rfl ⟨_, rfl, hJ⟩ dX0_dropBar_194
    · have hJ := hJ.2 h18
      refine zq_aload_n (i := 0) C dX0_dropBar_139 rfl rfl ?_
      refine zq_getr C fk_X0_27 (zs0 hb) rfl dX0_dropBar_140 ?_
      refine zq_iload_n (i := 3) C dX0_dropBar_143 rfl rfl ?_
      refine zq_dup2 C dX0_dropBar_144 rfl rfl ?_
      obtain ⟨h5, h5', hJ⟩ := hJ
      refine zq_iald C (zs6 hb) h5 h5' dX0_dropBar_145 ?_
      refine zq_aload_n (i := 0) C dX0_dropBar_146 rfl rfl ?_
      refine zq_getr C fk_X0_27 (zs0 hb) rfl dX0_dropBar_147 ?_
      refine zq_iload_n (i := 3) C dX0_dropBar_150 rfl rfl ?_
      obtain ⟨h6, h6', hJ⟩ := hJ
      refine zq_iald C (zs6 hb) h6 h6' dX0_dropBar_151 ?_
      refine zq_iload_n (i := 1) C dX0_dropBar_152 rfl rfl ?_
      refine zq_icmp_le (tgt := 160) C dX0_dropBar_153 rfl (fun h17 => ?_) (fun h17 => ?_)
      · have hJ := hJ.1 h17
        refine zq_iconst (x := 0) C dX0_dropBar_160 rfl ik_0 ?_
        exact hj161 _ _ _ _ _ hJ
      · have hJ := hJ.2 h17
        refine zq_iconst (x := 1) C dX0_dropBar_156 rfl ik_1 ?_
        refine zq_goto (tgt := 161) C dX0_dropBar_157 rfl ?_
        exact hj161 _ _ _ _ _ hJ
  have hl59 : ∀ (x2 : Int) (s : Int × zM), zwh (fun K s => jC_dropBar_L59 b a1 K Φ x2 (s.1) (s.2)) s → zG X (s.2) 59 [some (zr b), some (zi a1), some (zi x2), some (zi (s.1))] [] := by
    intro x2
    refine zwh_sound ?_
    intro K59 s hK59 hJ
    obtain ⟨x3, M⟩ := s
    have hJ : jC_dropBar_L59 b a1 K59 Φ x2 x3 M := hJ
    show zG X M 59 [some (zr b), some (zi a1), some (zi x2), some (zi x3)] []
    unfold jC_dropBar_L59 at hJ
    refine zq_iload_n (i := 3) C dX0_dropBar_59 rfl rfl ?_
    refine zq_aload_n (i := 0) C dX0_dropBar_60 rfl rfl ?_
    refine zq_get (kz := 0) C fk_X0_45 (zs0 hb) rfl dX0_dropBar_61 rfl ?_
    refine zq_icmp_ge (tgt := 129) C dX0_dropBar_64 rfl (fun h36 => ?_) (fun h36 => ?_)
    · have hJ := hJ.1 h36
      refine zq_iconst (x := 0) C dX0_dropBar_129 rfl ik_0 ?_
      refine zq_istore_n (i := 3) (lv' := [some (zr b), some (zi a1), some (zi x2), some (zi 0)]) C dX0_dropBar_130 rfl (Nat.le_of_ble_eq_true rfl) rfl ?_
      exact hl131 _ _ hJ
    · have hJ := hJ.2 h36
      refine zq_aload_n (i := 0) C dX0_dropBar_67 rfl rfl ?_
      refine zq_getr C fk_X0_9 (zs0 hb) rfl dX0_dropBar_68 ?_
      refine zq_iload_n (i := 3) C dX0_dropBar_71 rfl rfl ?_
      refine zq_aload_n (i := 0) C dX0_dropBar_72 rfl rfl ?_
      refine zq_getr C fk_X0_9 (zs0 hb) rfl dX0_dropBar_73 ?_
      refine zq_iload_n (i := 3) C dX0_dropBar_76 rfl rfl ?_
      refine zq_iconst (x := 1) C dX0_dropBar_77 rfl ik_1 ?_
      obtain ⟨h19, hJ⟩ := hJ
      refine zq_iadd C dX0_dropBar_78 h19 ?_
      obtain ⟨h20, h20', hJ⟩ := hJ
      refine zq_iald C (zs1 hb) h20 h20' dX0_dropBar_79 ?_
      obtain ⟨h21, h21', hJ⟩ := hJ
      refine zq_iast C (zs1 hb) h21 h21' dX0_dropBar_80 (fun M22 hM22 => ?_)
      have hJ := hJ M22 hM22
      refine zq_aload_n (i := 0) C dX0_dropBar_81 rfl rfl ?_
      refine zq_getr C fk_X0_15 (zs0 hb) rfl dX0_dropBar_82 ?_
      refine zq_iload_n (i := 3) C dX0_dropBar_85 rfl rfl ?_
      refine zq_aload_n (i := 0) C dX0_dropBar_86 rfl rfl ?_
      refine zq_getr C fk_X0_15 (zs0 hb) rfl dX0_dropBar_87 ?_
      refine zq_iload_n (i := 3) C dX0_dropBar_90 rfl rfl ?_
      refine zq_iconst (x := 1) C dX0_dropBar_91 rfl ik_1 ?_
      obtain ⟨h23, hJ⟩ := hJ
      refine zq_iadd C dX0_dropBar_92 h23 ?_
      obtain ⟨h24, h24', hJ⟩ := hJ
      refine zq_iald C (zs2 hb) h24 h24' dX0_dropBar_93 ?_
      obtain ⟨h25, h25', hJ⟩ := hJ
      refine zq_iast C (zs2 hb) h25 h25' dX0_dropBar_94 (fun M26 hM26 => ?_)
      have hJ := hJ M26 hM26
      refine zq_aload_n (i := 0) C dX0_dropBar_95 rfl rfl ?_
      refine zq_getr C fk_X0_18 (zs0 hb) rfl dX0_dropBar_96 ?_
      refine zq_iload_n (i := 3) C dX0_dropBar_99 rfl rfl ?_
      refine zq_aload_n (i := 0) C dX0_dropBar_100 rfl rfl ?_
      refine zq_getr C fk_X0_18 (zs0 hb) rfl dX0_dropBar_101 ?_
      refine zq_iload_n (i := 3) C dX0_dropBar_104 rfl rfl ?_
      refine zq_iconst (x := 1) C dX0_dropBar_105 rfl ik_1 ?_
      obtain ⟨h27, hJ⟩ := hJ
      refine zq_iadd C dX0_dropBar_106 h27 ?_
      obtain ⟨h28, h28', hJ⟩ := hJ
      refine zq_iald C (zs3 hb) h28 h28' dX0_dropBar_107 ?_
      obtain ⟨h29, h29', hJ⟩ := hJ
      refine zq_iast C (zs3 hb) h29 h29' dX0_dropBar_108 (fun M30 hM30 => ?_)
      have hJ := hJ M30 hM30
      refine zq_aload_n (i := 0) C dX0_dropBar_109 rfl rfl ?_
      refine zq_getr C fk_X0_21 (zs0 hb) rfl dX0_dropBar_110 ?_
      refine zq_iload_n (i := 3) C dX0_dropBar_113 rfl rfl ?_
      refine zq_aload_n (i := 0) C dX0_dropBar_114 rfl rfl ?_
      refine zq_getr C fk_X0_21 (zs0 hb) rfl dX0_dropBar_115 ?_
      refine zq_iload_n (i := 3) C dX0_dropBar_118 rfl rfl ?_
      refine zq_iconst (x := 1) C dX0_dropBar_119 rfl ik_1 ?_
      obtain ⟨h31, hJ⟩ := hJ
      refine zq_iadd C dX0_dropBar_120 h31 ?_
      obtain ⟨h32, h32', hJ⟩ := hJ
      refine zq_iald C (zs4 hb) h32 h32' dX0_dropBar_121 ?_
      obtain ⟨h33, h33', hJ⟩ := hJ
      refine zq_iast C (zs4 hb) h33 h33' dX0_dropBar_122 (fun M34 hM34 => ?_)
      have hJ := hJ M34 hM34
      obtain ⟨hv3_35, hJ⟩ := hJ
      refine zq_iinc (y := x3 + 1) (lv' := [some (zr b), some (zi a1), some (zi x2), some (zi (x3 + 1))]) C dX0_dropBar_123 rfl rfl hv3_35 rfl ?_
      obtain ⟨v3_35, ev3_35⟩ : ∃ z, z = x3 + 1 := ⟨_, rfl⟩
      rw [← ev3_35]
      have hJ := hJ v3_35 ev3_35
      refine zq_goto (tgt := 59) C dX0_dropBar_126 rfl ?_
      exact hK59 _ hJ
  have hl9 : ∀ (s : Int × Int × zM), zwh (fun K s => jC_dropBar_L9 b a1 K Φ (s.1) (s.2.1) (s.2.2)) s → zG X (s.2.2) 9 [some (zr b), some (zi a1), some (zi (s.1)), some (zi (s.2.1))] [] := by
    refine zwh_sound ?_
    intro K9 s hK9 hJ
    obtain ⟨x2, x3, M⟩ := s
    have hJ : jC_dropBar_L9 b a1 K9 Φ x2 x3 M := hJ
    show zG X M 9 [some (zr b), some (zi a1), some (zi x2), some (zi x3)] []
    unfold jC_dropBar_L9 at hJ
    have hj33 : ∀ (x2 x3 : Int) (M : zM), jC_dropBar_J33 b a1 K9 Φ x2 x3 M → zG X M 33 [some (zr b), some (zi a1), some (zi x2), some (zi x3)] [] := by
      intro x2 x3 M hJ
      unfold jC_dropBar_J33 at hJ
      refine zq_aload_n (i := 0) C dX0_dropBar_33 rfl rfl ?_
      refine zq_iload_n (i := 3) C dX0_dropBar_34 rfl rfl ?_
      refine zq_callVv C [zi x3] (wC_dropArrow l hb _ _  hJ) ck_X0_89 iv_X0_dropArrow rfl (zs0 hb) rfl rfl rfl rfl rfl rfl dX0_dropBar_35 (fun M38 hJ => ?_)
      obtain ⟨hv2_39, hJ⟩ := hJ
      refine zq_iinc (y := x2 + 1) (lv' := [some (zr b), some (zi a1), some (zi (x2 + 1)), some (zi x3)]) C dX0_dropBar_38 rfl rfl hv2_39 rfl ?_
      obtain ⟨v2_39, ev2_39⟩ : ∃ z, z = x2 + 1 := ⟨_, rfl⟩
      rw [← ev2_39]
      have hJ := hJ v2_39 ev2_39
      obtain ⟨hv3_40, hJ⟩ := hJ
      refine zq_iinc (y := x3 + (-1)) (lv' := [some (zr b), some (zi a1), some (zi v2_39), some (zi (x3 + (-1)))]) C dX0_dropBar_41 rfl rfl hv3_40 rfl ?_
      obtain ⟨v3_40, ev3_40⟩ : ∃ z, z = x3 + (-1) := ⟨_, rfl⟩
      rw [← ev3_40]
      have hJ := hJ v3_40 ev3_40
      refine zq_goto (tgt := 9) C dX0_dropBar_44 rfl ?_
      exact hK9 _ hJ
    refine zq_iload_n (i := 3) C dX0_dropBar_9 rfl rfl ?_
    refine zq_if_lt (tgt := 47) C dX0_dropBar_10 rfl (fun h45 => ?_) (fun h45 => ?_)
    · have hJ := hJ.1 h45
      refine zq_aload_n (i := 0) C dX0_dropBar_47 rfl rfl ?_
      refine zq_dup C dX0_dropBar_48 rfl ?_
      refine zq_get (kz := 0) C fk_X0_45 (zs0 hb) rfl dX0_dropBar_49 rfl ?_
      refine zq_iconst (x := 1) C dX0_dropBar_52 rfl ik_1 ?_
      obtain ⟨h3, hJ⟩ := hJ
      refine zq_isub C dX0_dropBar_53 h3 ?_
      refine zq_put (kz := 0) C fk_X0_45 (zs0 hb) rfl dX0_dropBar_54 rfl (fun M4 hM4 => ?_)
      have hJ := hJ M4 hM4
      refine zq_iload_n (i := 1) C dX0_dropBar_57 rfl rfl ?_
      refine zq_istore_n (i := 3) (lv' := [some (zr b), some (zi a1), some (zi x2), some (zi a1)]) C dX0_dropBar_58 rfl (Nat.le_of_ble_eq_true rfl) rfl ?_
      exact hl59 _ _ hJ
    · have hJ := hJ.2 h45
      refine zq_aload_n (i := 0) C dX0_dropBar_13 rfl rfl ?_
      refine zq_getr C fk_X0_27 (zs0 hb) rfl dX0_dropBar_14 ?_
      refine zq_iload_n (i := 3) C dX0_dropBar_17 rfl rfl ?_
      obtain ⟨h37, h37', hJ⟩ := hJ
      refine zq_iald C (zs6 hb) h37 h37' dX0_dropBar_18 ?_
      refine zq_iload_n (i := 1) C dX0_dropBar_19 rfl rfl ?_
      refine zq_icmp_eq (tgt := 33) C dX0_dropBar_20 rfl (fun h44 => ?_) (fun h44 => ?_)
      · have hJ := hJ.1 h44
        exact hj33 _ _ _ hJ
      · have hJ := hJ.2 h44
        refine zq_aload_n (i := 0) C dX0_dropBar_23 rfl rfl ?_
        refine zq_getr C fk_X0_30 (zs0 hb) rfl dX0_dropBar_24 ?_
        refine zq_iload_n (i := 3) C dX0_dropBar_27 rfl rfl ?_
        obtain ⟨h41, h41', hJ⟩ := hJ
        refine zq_iald C (zs7 hb) h41 h41' dX0_dropBar_28 ?_
        refine zq_iload_n (i := 1) C dX0_dropBar_29 rfl rfl ?_
        refine zq_icmp_ne (tgt := 41) C dX0_dropBar_30 rfl (fun h43 => ?_) (fun h43 => ?_)
        · have hJ := hJ.1 h43
          obtain ⟨hv3_42, hJ⟩ := hJ
          refine zq_iinc (y := x3 + (-1)) (lv' := [some (zr b), some (zi a1), some (zi x2), some (zi (x3 + (-1)))]) C dX0_dropBar_41 rfl rfl hv3_42 rfl ?_
          obtain ⟨v3_42, ev3_42⟩ : ∃ z, z = x3 + (-1) := ⟨_, rfl⟩
          rw [← ev3_42]
          have hJ := hJ v3_42 ev3_42
          refine zq_goto (tgt := 9) C dX0_dropBar_44 rfl ?_
          exact hK9 _ hJ
        · have hJ := hJ.2 h43
          exact hj33 _ _ _ hJ
  refine zq_iconst (x := 0) C dX0_dropBar_0 rfl ik_0 ?_
  refine zq_istore_n (i := 2) (lv' := [some (zr b), some (zi a1), some (zi 0), none]) C dX0_dropBar_1 rfl (Nat.le_of_ble_eq_true rfl) rfl ?_
  refine zq_aload_n (i := 0) C dX0_dropBar_2 rfl rfl ?_
  refine zq_get (kz := 6) C fk_X0_58 (zs0 hb) rfl dX0_dropBar_3 rfl ?_
  refine zq_iconst (x := 1) C dX0_dropBar_6 rfl ik_1 ?_
  obtain ⟨h1, hJ⟩ := hJ
  refine zq_isub C dX0_dropBar_7 h1 ?_
  refine zq_istoreN_n (i := 3) C (fun v => [some (zr b), some (zi a1), some (zi 0), some (zi v)]) dX0_dropBar_8 rfl (Nat.le_of_ble_eq_true rfl) (fun _ => rfl) (fun v3_2 hv3_2 => ?_)
  have hJ := hJ v3_2 hv3_2
  exact hl9 _ hJ
set_option maxRecDepth 100000 in
set_option maxHeartbeats 4000000 in
theorem wB_takeBar (l : Launch) (a1 : Int) (M : zM) {Φ : Int → zM → Prop} (hJ : jB_takeBar a1 M Φ) : zMet l yX7_takeBar cX7_takeBar 3 (some .int) 4 81 shX [zr 70, zi a1] M (zI Φ) := by
  refine zq_enter [some (zr 70), some (zi a1), none] (by decide) rfl (Nat.le_of_ble_eq_true rfl) rfl (fun X C => ?_)
  unfold jB_takeBar at hJ
  refine zq_aload_n (i := 0) C dX7_takeBar_0 rfl rfl ?_
  refine zq_getr C fk_X7_10 sx70 rfl dX7_takeBar_1 ?_
  refine zq_iload_n (i := 1) C dX7_takeBar_4 rfl rfl ?_
  refine zq_callVi C [zi a1] (wC_slotOf l zch0 _ _  hJ) ck_X7_91 iv_X0_slotOf rfl sx0 rfl rfl rfl rfl rfl rfl dX7_takeBar_5 (fun r1 N2 hN2 => ?_)
  obtain ⟨rfl, hJ⟩ := hN2
  refine zq_istore_n (i := 2) (lv' := [some (zr 70), some (zi a1), some (zi r1)]) C dX7_takeBar_8 rfl (Nat.le_of_ble_eq_true rfl) rfl ?_
  refine zq_iload_n (i := 2) C dX7_takeBar_9 rfl rfl ?_
  refine zq_if_ge (tgt := 15) C dX7_takeBar_10 rfl (fun h8 => ?_) (fun h8 => ?_)
  · have hJ := hJ.1 h8
    refine zq_aload_n (i := 0) C dX7_takeBar_15 rfl rfl ?_
    refine zq_getr C fk_X7_16 sx70 rfl dX7_takeBar_16 ?_
    refine zq_aload_n (i := 0) C dX7_takeBar_19 rfl rfl ?_
    refine zq_getr C fk_X7_10 sx70 rfl dX7_takeBar_20 ?_
    refine zq_callVv C [zr 0] (wC_copyFrom l zch10 zch0 _  hJ) ck_X7_64 iv_X0_copyFrom rfl sx10 rfl rfl rfl rfl rfl rfl dX7_takeBar_23 (fun M3 hJ => ?_)
    refine zq_aload_n (i := 0) C dX7_takeBar_26 rfl rfl ?_
    refine zq_aload_n (i := 0) C dX7_takeBar_27 rfl rfl ?_
    refine zq_getr C fk_X7_16 sx70 rfl dX7_takeBar_28 ?_
    refine zq_iload_n (i := 2) C dX7_takeBar_31 rfl rfl ?_
    refine zq_callVi C [zi r1] (wC_dropBar l zch10 _ _  hJ) ck_X7_94 iv_X0_dropBar rfl sx10 rfl rfl rfl rfl rfl rfl dX7_takeBar_32 (fun r4 M5 hJ => ?_)
    refine zq_callVi C [zi r4] (wB_settle l _ _  hJ) ck_X7_72 iv_X7_settle rfl sx70 rfl rfl rfl rfl rfl rfl dX7_takeBar_35 (fun r6 M7 hJ => ?_)
    exact zq_iret C rfl ⟨_, rfl, hJ⟩ dX7_takeBar_38
  · have hJ := hJ.2 h8
    refine zq_iconst (x := (-1)) C dX7_takeBar_13 rfl ik_m1 ?_
    exact zq_iret C rfl ⟨_, rfl, hJ⟩ dX7_takeBar_14
set_option maxRecDepth 100000 in
set_option maxHeartbeats 4000000 in
theorem wC_arrowSlotOf (l : Launch) {b : Nat} (hb : zCh b) (a1 : Int) (M : zM) {Φ : Int → Prop} (hJ : jC_arrowSlotOf b a1 M Φ) : zMet l yX0_arrowSlotOf cX0_arrowSlotOf 3 (some .int) 0 0 shX [zr b, zi a1] M (zI (fun z M' => M = M' ∧ Φ z)) := by
  refine zq_enter [some (zr b), some (zi a1), none] (by decide) rfl (Nat.le_of_ble_eq_true rfl) rfl (fun X C => ?_)
  unfold jC_arrowSlotOf at hJ
  have hl2 : ∀ (s : Int), zwh (fun K s => jC_arrowSlotOf_L2 b a1 K Φ M (s)) s → zG X M 2 [some (zr b), some (zi a1), some (zi s)] [] := by
    refine zwh_sound ?_
    intro K2 s hK2 hJ
    obtain ⟨x2, rfl⟩ : ∃ z, z = s := ⟨_, rfl⟩
    have hJ : jC_arrowSlotOf_L2 b a1 K2 Φ M x2 := hJ
    show zG X M 2 [some (zr b), some (zi a1), some (zi x2)] []
    unfold jC_arrowSlotOf_L2 at hJ
    refine zq_iload_n (i := 2) C dX0_arrowSlotOf_2 rfl rfl ?_
    refine zq_aload_n (i := 0) C dX0_arrowSlotOf_3 rfl rfl ?_
    refine zq_get (kz := 6) C fk_X0_58 (zs0 hb) rfl dX0_arrowSlotOf_4 rfl ?_
    refine zq_icmp_ge (tgt := 28) C dX0_arrowSlotOf_7 rfl (fun h4 => ?_) (fun h4 => ?_)
    · have hJ := hJ.1 h4
      refine zq_iconst (x := (-1)) C dX0_arrowSlotOf_28 rfl ik_m1 ?_
      exact zq_iret C rfl ⟨_, rfl, rfl, hJ⟩ dX0_arrowSlotOf_29
    · have hJ := hJ.2 h4
      refine zq_aload_n (i := 0) C dX0_arrowSlotOf_10 rfl rfl ?_
      refine zq_getr C fk_X0_24 (zs0 hb) rfl dX0_arrowSlotOf_11 ?_
      refine zq_iload_n (i := 2) C dX0_arrowSlotOf_14 rfl rfl ?_
      obtain ⟨h1, h1', hJ⟩ := hJ
      refine zq_iald C (zs5 hb) h1 h1' dX0_arrowSlotOf_15 ?_
      refine zq_iload_n (i := 1) C dX0_arrowSlotOf_16 rfl rfl ?_
      refine zq_icmp_ne (tgt := 22) C dX0_arrowSlotOf_17 rfl (fun h3 => ?_) (fun h3 => ?_)
      · have hJ := hJ.1 h3
        obtain ⟨hv2_2, hJ⟩ := hJ
        refine zq_iinc (y := x2 + 1) (lv' := [some (zr b), some (zi a1), some (zi (x2 + 1))]) C dX0_arrowSlotOf_22 rfl rfl hv2_2 rfl ?_
        obtain ⟨v2_2, ev2_2⟩ : ∃ z, z = x2 + 1 := ⟨_, rfl⟩
        rw [← ev2_2]
        have hJ := hJ v2_2 ev2_2
        refine zq_goto (tgt := 2) C dX0_arrowSlotOf_25 rfl ?_
        exact hK2 _ hJ
      · have hJ := hJ.2 h3
        refine zq_iload_n (i := 2) C dX0_arrowSlotOf_20 rfl rfl ?_
        exact zq_iret C rfl ⟨_, rfl, rfl, hJ⟩ dX0_arrowSlotOf_21
  refine zq_iconst (x := 0) C dX0_arrowSlotOf_0 rfl ik_0 ?_
  refine zq_istore_n (i := 2) (lv' := [some (zr b), some (zi a1), some (zi 0)]) C dX0_arrowSlotOf_1 rfl (Nat.le_of_ble_eq_true rfl) rfl ?_
  exact hl2 _ hJ
set_option maxRecDepth 100000 in
set_option maxHeartbeats 4000000 in
theorem wB_takeArrow (l : Launch) (a1 : Int) (M : zM) {Φ : Int → zM → Prop} (hJ : jB_takeArrow a1 M Φ) : zMet l yX7_takeArrow cX7_takeArrow 4 (some .int) 4 81 shX [zr 70, zi a1] M (zI Φ) := by
  refine zq_enter [some (zr 70), some (zi a1), none, none] (by decide) rfl (Nat.le_of_ble_eq_true rfl) rfl (fun X C => ?_)
  unfold jB_takeArrow at hJ
  refine zq_aload_n (i := 0) C dX7_takeArrow_0 rfl rfl ?_
  refine zq_getr C fk_X7_10 sx70 rfl dX7_takeArrow_1 ?_
  refine zq_iload_n (i := 1) C dX7_takeArrow_4 rfl rfl ?_
  refine zq_callVi C [zi a1] (wC_arrowSlotOf l zch0 _ _  hJ) ck_X7_97 iv_X0_arrowSlotOf rfl sx0 rfl rfl rfl rfl rfl rfl dX7_takeArrow_5 (fun r1 N2 hN2 => ?_)
  obtain ⟨rfl, hJ⟩ := hN2
  refine zq_istore_n (i := 2) (lv' := [some (zr 70), some (zi a1), some (zi r1), none]) C dX7_takeArrow_8 rfl (Nat.le_of_ble_eq_true rfl) rfl ?_
  refine zq_iload_n (i := 2) C dX7_takeArrow_9 rfl rfl ?_
  refine zq_if_ge (tgt := 15) C dX7_takeArrow_10 rfl (fun h10 => ?_) (fun h10 => ?_)
  · have hJ := hJ.1 h10
    refine zq_aload_n (i := 0) C dX7_takeArrow_15 rfl rfl ?_
    refine zq_getr C fk_X7_16 sx70 rfl dX7_takeArrow_16 ?_
    refine zq_aload_n (i := 0) C dX7_takeArrow_19 rfl rfl ?_
    refine zq_getr C fk_X7_10 sx70 rfl dX7_takeArrow_20 ?_
    refine zq_callVv C [zr 0] (wC_copyFrom l zch10 zch0 _  hJ) ck_X7_64 iv_X0_copyFrom rfl sx10 rfl rfl rfl rfl rfl rfl dX7_takeArrow_23 (fun M3 hJ => ?_)
    refine zq_aload_n (i := 0) C dX7_takeArrow_26 rfl rfl ?_
    refine zq_getr C fk_X7_16 sx70 rfl dX7_takeArrow_27 ?_
    refine zq_getr C fk_X7_100 sx10 rfl dX7_takeArrow_30 ?_
    refine zq_aload_n (i := 0) C dX7_takeArrow_33 rfl rfl ?_
    refine zq_getr C fk_X7_16 sx70 rfl dX7_takeArrow_34 ?_
    refine zq_getr C fk_X7_104 sx10 rfl dX7_takeArrow_37 ?_
    refine zq_iload_n (i := 2) C dX7_takeArrow_40 rfl rfl ?_
    obtain ⟨h4, h4', hJ⟩ := hJ
    refine zq_iald C sx17 h4 h4' dX7_takeArrow_41 ?_
    obtain ⟨h5, h5', hJ⟩ := hJ
    refine zq_iald C sx11 h5 h5' dX7_takeArrow_42 ?_
    refine zq_istoreN_n (i := 3) C (fun v => [some (zr 70), some (zi a1), some (zi r1), some (zi v)]) dX7_takeArrow_43 rfl (Nat.le_of_ble_eq_true rfl) (fun _ => rfl) (fun v3_6 hv3_6 => ?_)
    have hJ := hJ v3_6 hv3_6
    refine zq_aload_n (i := 0) C dX7_takeArrow_44 rfl rfl ?_
    refine zq_getr C fk_X7_16 sx70 rfl dX7_takeArrow_45 ?_
    refine zq_iload_n (i := 2) C dX7_takeArrow_48 rfl rfl ?_
    refine zq_callVv C [zi r1] (wC_dropArrow l zch10 _ _  hJ) ck_X7_107 iv_X0_dropArrow rfl sx10 rfl rfl rfl rfl rfl rfl dX7_takeArrow_49 (fun M7 hJ => ?_)
    refine zq_aload_n (i := 0) C dX7_takeArrow_52 rfl rfl ?_
    refine zq_iload_n (i := 3) C dX7_takeArrow_53 rfl rfl ?_
    refine zq_callVi C [zi v3_6] (wB_settle l _ _  hJ) ck_X7_72 iv_X7_settle rfl sx70 rfl rfl rfl rfl rfl rfl dX7_takeArrow_54 (fun r8 M9 hJ => ?_)
    exact zq_iret C rfl ⟨_, rfl, hJ⟩ dX7_takeArrow_57
  · have hJ := hJ.2 h10
    refine zq_iconst (x := (-1)) C dX7_takeArrow_13 rfl ik_m1 ?_
    exact zq_iret C rfl ⟨_, rfl, hJ⟩ dX7_takeArrow_14
