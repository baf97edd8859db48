set_option maxRecDepth 100000 in
set_option maxHeartbeats 4000000 in
theorem wM_pull (l : Launch) (a1 : Int) (M : zM) {Φ : Int → zM → Prop} (hJ : jM_pull a1 M Φ) : zMet l yX8_pull cX8_pull 2 (some .int) 6 134 shM [zr 0, zi a1] M (zI Φ) := by
  refine zq_enter [some (zr 0), some (zi a1)] (by decide) rfl (Nat.le_of_ble_eq_true rfl) rfl (fun X C => ?_)
  unfold jM_pull at hJ
  refine zq_aload_n (i := 0) C dX8_pull_0 rfl rfl ?_
  refine zq_callVv C [] (wM_putAside l _  hJ) ck_X8_163 iv_X8_putAside rfl sm0 rfl rfl rfl rfl rfl rfl dX8_pull_1 (fun M1 hJ => ?_)
  refine zq_aload_n (i := 0) C dX8_pull_4 rfl rfl ?_
  refine zq_aload_n (i := 0) C dX8_pull_5 rfl rfl ?_
  refine zq_iload_n (i := 1) C dX8_pull_6 rfl rfl ?_
  refine zq_callVi C [zi a1] (wM_pulls l _ _  hJ) ck_X8_194 iv_X8_pulls rfl sm0 rfl rfl rfl rfl rfl rfl dX8_pull_7 (fun r2 M3 hJ => ?_)
  refine zq_callVi C [zi r2] (wM_act l _ _  hJ) ck_X8_170 iv_X8_act rfl sm0 rfl rfl rfl rfl rfl rfl dX8_pull_10 (fun r4 M5 hJ => ?_)
  exact zq_iret C rfl ⟨_, rfl, hJ⟩ dX8_pull_13
set_option maxRecDepth 100000 in
set_option maxHeartbeats 4000000 in
theorem wM_width (l : Launch) (a1 a2 a3 : Int) (M : zM) {Φ : Int → zM → Prop} (hJ : jM_width a1 a2 a3 M Φ) : zMet l yX8_width cX8_width 4 (some .int) 2 47 shM [zr 0, zi a1, zi a2, zi a3] M (zI Φ) := by
  refine zq_enter [some (zr 0), some (zi a1), some (zi a2), some (zi a3)] (by decide) rfl (Nat.le_of_ble_eq_true rfl) rfl (fun X C => ?_)
  unfold jM_width at hJ
  refine zq_aload_n (i := 0) C dX8_width_0 rfl rfl ?_
  refine zq_callVv C [] (wM_putAside l _  hJ) ck_X8_163 iv_X8_putAside rfl sm0 rfl rfl rfl rfl rfl rfl dX8_width_1 (fun M1 hJ => ?_)
  refine zq_aload_n (i := 0) C dX8_width_4 rfl rfl ?_
  refine zq_aload_n (i := 0) C dX8_width_5 rfl rfl ?_
  refine zq_iload_n (i := 1) C dX8_width_6 rfl rfl ?_
  refine zq_iload_n (i := 2) C dX8_width_7 rfl rfl ?_
  refine zq_iload_n (i := 3) C dX8_width_8 rfl rfl ?_
  refine zq_callVi C [zi a1, zi a2, zi a3] (wM_widens l _ _ _ _  hJ) ck_X8_197 iv_X8_widens rfl sm0 rfl rfl rfl rfl rfl rfl dX8_width_9 (fun r2 M3 hJ => ?_)
  refine zq_callVi C [zi r2] (wM_act l _ _  hJ) ck_X8_170 iv_X8_act rfl sm0 rfl rfl rfl rfl rfl rfl dX8_width_12 (fun r4 M5 hJ => ?_)
  exact zq_iret C rfl ⟨_, rfl, hJ⟩ dX8_width_15
set_option maxRecDepth 100000 in
set_option maxHeartbeats 4000000 in
theorem wM_set (l : Launch) (a1 a2 : Int) (M : zM) {Φ : Int → zM → Prop} (hJ : jM_set a1 a2 M Φ) : zMet l yX8_set cX8_set 3 (some .int) 2 45 shM [zr 0, zi a1, zi a2] M (zI Φ) := by
  refine zq_enter [some (zr 0), some (zi a1), some (zi a2)] (by decide) rfl (Nat.le_of_ble_eq_true rfl) rfl (fun X C => ?_)
  unfold jM_set at hJ
  refine zq_aload_n (i := 0) C dX8_set_0 rfl rfl ?_
  refine zq_callVv C [] (wM_putAside l _  hJ) ck_X8_163 iv_X8_putAside rfl sm0 rfl rfl rfl rfl rfl rfl dX8_set_1 (fun M1 hJ => ?_)
  refine zq_aload_n (i := 0) C dX8_set_4 rfl rfl ?_
  refine zq_aload_n (i := 0) C dX8_set_5 rfl rfl ?_
  refine zq_iload_n (i := 1) C dX8_set_6 rfl rfl ?_
  refine zq_iload_n (i := 2) C dX8_set_7 rfl rfl ?_
  refine zq_callVi C [zi a1, zi a2] (wM_sets l _ _ _  hJ) ck_X8_200 iv_X8_sets rfl sm0 rfl rfl rfl rfl rfl rfl dX8_set_8 (fun r2 M3 hJ => ?_)
  refine zq_callVi C [zi r2] (wM_act l _ _  hJ) ck_X8_170 iv_X8_act rfl sm0 rfl rfl rfl rfl rfl rfl dX8_set_11 (fun r4 M5 hJ => ?_)
  exact zq_iret C rfl ⟨_, rfl, hJ⟩ dX8_set_14
set_option maxRecDepth 100000 in
set_option maxHeartbeats 4000000 in
theorem wM_type (l : Launch) (a1 : Int) (M : zM) {Φ : Int → zM → Prop} (hJ : jM_type a1 M Φ) : zMet l yX8_type cX8_type 2 (some .int) 0 0 shM [zr 0, zi a1] M (zI Φ) := by
  refine zq_enter [some (zr 0), some (zi a1)] (by decide) rfl (Nat.le_of_ble_eq_true rfl) rfl (fun X C => ?_)
  unfold jM_type at hJ
  refine zq_aload_n (i := 0) C dX8_type_0 rfl rfl ?_
  refine zq_get (kz := 7) C fk_X8_203 sm0 rfl dX8_type_1 rfl ?_
  refine zq_bipush (x := 60) C dX8_type_4 bi_60 ik_60 ?_
  refine zq_icmp_ne (tgt := 12) C dX8_type_6 rfl (fun h5 => ?_) (fun h5 => ?_)
  · have hJ := hJ.1 h5
    refine zq_aload_n (i := 0) C dX8_type_12 rfl rfl ?_
    refine zq_getr C fk_X8_22 sm0 rfl dX8_type_13 ?_
    refine zq_aload_n (i := 0) C dX8_type_16 rfl rfl ?_
    refine zq_get (kz := 7) C fk_X8_203 sm0 rfl dX8_type_17 rfl ?_
    refine zq_iload_n (i := 1) C dX8_type_20 rfl rfl ?_
    obtain ⟨h1, h1', hJ⟩ := hJ
    refine zq_iast C sm5 h1 h1' dX8_type_21 (fun M2 hM2 => ?_)
    have hJ := hJ M2 hM2
    refine zq_aload_n (i := 0) C dX8_type_22 rfl rfl ?_
    refine zq_dup C dX8_type_23 rfl ?_
    refine zq_get (kz := 7) C fk_X8_203 sm0 rfl dX8_type_24 rfl ?_
    refine zq_iconst (x := 1) C dX8_type_27 rfl ik_1 ?_
    obtain ⟨h3, hJ⟩ := hJ
    refine zq_iadd C dX8_type_28 h3 ?_
    refine zq_put (kz := 7) C fk_X8_203 sm0 rfl dX8_type_29 rfl (fun M4 hM4 => ?_)
    have hJ := hJ M4 hM4
    refine zq_aload_n (i := 0) C dX8_type_32 rfl rfl ?_
    refine zq_get (kz := 7) C fk_X8_203 sm0 rfl dX8_type_33 rfl ?_
    exact zq_iret C rfl ⟨_, rfl, hJ⟩ dX8_type_36
  · have hJ := hJ.2 h5
    refine zq_bipush (x := (-3)) C dX8_type_9 bi_m3 ik_m3 ?_
    exact zq_iret C rfl ⟨_, rfl, hJ⟩ dX8_type_11
set_option maxRecDepth 100000 in
set_option maxHeartbeats 4000000 in
theorem wM_clearText (l : Launch)  (M : zM) {Φ : Int → zM → Prop} (hJ : jM_clearText  M Φ) : zMet l yX8_clearText cX8_clearText 2 (some .int) 0 0 shM [zr 0] M (zI Φ) := by
  refine zq_enter [some (zr 0), none] (by decide) rfl (Nat.le_of_ble_eq_true rfl) rfl (fun X C => ?_)
  unfold jM_clearText at hJ
  refine zq_aload_n (i := 0) C dX8_clearText_0 rfl rfl ?_
  refine zq_get (kz := 7) C fk_X8_203 sm0 rfl dX8_clearText_1 rfl ?_
  refine zq_istoreN_n (i := 1) C (fun v => [some (zr 0), some (zi v)]) dX8_clearText_4 rfl (Nat.le_of_ble_eq_true rfl) (fun _ => rfl) (fun v1_1 hv1_1 => ?_)
  have hJ := hJ v1_1 hv1_1
  refine zq_aload_n (i := 0) C dX8_clearText_5 rfl rfl ?_
  refine zq_iconst (x := 0) C dX8_clearText_6 rfl ik_0 ?_
  refine zq_put (kz := 7) C fk_X8_203 sm0 rfl dX8_clearText_7 rfl (fun M2 hM2 => ?_)
  have hJ := hJ M2 hM2
  refine zq_iload_n (i := 1) C dX8_clearText_10 rfl rfl ?_
  exact zq_iret C rfl ⟨_, rfl, hJ⟩ dX8_clearText_11
set_option maxRecDepth 100000 in
set_option maxHeartbeats 4000000 in
theorem wM_sign (l : Launch) (a1 a2 : Int) (M : zM) {Φ : Int → zM → Prop} (hJ : jM_sign a1 a2 M Φ) : zMet l yX8_sign cX8_sign 4 (some .int) 1 22 shM [zr 0, zi a1, zi a2] M (zI Φ) := by
  refine zq_enter [some (zr 0), some (zi a1), some (zi a2), none] (by decide) rfl (Nat.le_of_ble_eq_true rfl) rfl (fun X C => ?_)
  unfold jM_sign at hJ
  have hj78 : ∀ (x3 s1 s2 : Int) (M : zM), jM_sign_J78 a1 a2 Φ x3 s1 s2 M → zG X M 78 [some (zr 0), some (zi a1), some (zi a2), some (zi x3)] [zi s2, zi s1, zr 0] := by
    intro x3 s1 s2 M hJ
    unfold jM_sign_J78 at hJ
    obtain ⟨h3, hJ⟩ := hJ
    refine zq_iadd C dX8_sign_78 h3 ?_
    refine zq_put (kz := 12) C fk_X8_206 sm0 rfl dX8_sign_79 rfl (fun M4 hM4 => ?_)
    have hJ := hJ M4 hM4
    refine zq_iload_n (i := 3) C dX8_sign_82 rfl rfl ?_
    exact zq_iret C rfl ⟨_, rfl, hJ⟩ dX8_sign_83
  have hj58 : ∀ (x3 s1 : Int) (M : zM), jM_sign_J58 a1 a2 Φ x3 s1 M → zG X M 58 [some (zr 0), some (zi a1), some (zi a2), some (zi x3)] [zi s1, zr 0] := by
    intro x3 s1 M hJ
    unfold jM_sign_J58 at hJ
    obtain ⟨h1, hJ⟩ := hJ
    refine zq_putz (kz := 13) C fk_X8_209 h1 sm0 rfl dX8_sign_58 rfl (fun M2 hM2 => ?_)
    have hJ := hJ M2 hM2
    refine zq_aload_n (i := 0) C dX8_sign_61 rfl rfl ?_
    refine zq_dup C dX8_sign_62 rfl ?_
    refine zq_get (kz := 12) C fk_X8_206 sm0 rfl dX8_sign_63 rfl ?_
    refine zq_aload_n (i := 0) C dX8_sign_66 rfl rfl ?_
    refine zq_get (kz := 13) C fk_X8_209 sm0 rfl dX8_sign_67 rfl ?_
    refine zq_if_eq (tgt := 77) C dX8_sign_70 rfl (fun h5 => ?_) (fun h5 => ?_)
    · have hJ := hJ.1 h5
      refine zq_iconst (x := 1) C dX8_sign_77 rfl ik_1 ?_
      exact hj78 _ _ _ _ hJ
    · have hJ := hJ.2 h5
      refine zq_iconst (x := 0) C dX8_sign_73 rfl ik_0 ?_
      refine zq_goto (tgt := 78) C dX8_sign_74 rfl ?_
      exact hj78 _ _ _ _ hJ
  have hj53 : ∀ (x3 : Int) (M : zM), jM_sign_J53 a1 a2 Φ x3 M → zG X M 53 [some (zr 0), some (zi a1), some (zi a2), some (zi x3)] [zr 0] := by
    intro x3 M hJ
    unfold jM_sign_J53 at hJ
    refine zq_iconst (x := 1) C dX8_sign_53 rfl ik_1 ?_
    refine zq_goto (tgt := 58) C dX8_sign_54 rfl ?_
    exact hj58 _ _ _ hJ
  have hj24 : ∀ (s0 : Int) (M : zM), jM_sign_J24 a1 a2 Φ s0 M → zG X M 24 [some (zr 0), some (zi a1), some (zi a2), none] [zi s0] := by
    intro s0 M hJ
    unfold jM_sign_J24 at hJ
    refine zq_istore_n (i := 3) (lv' := [some (zr 0), some (zi a1), some (zi a2), some (zi s0)]) C dX8_sign_24 rfl (Nat.le_of_ble_eq_true rfl) rfl ?_
    refine zq_aload_n (i := 0) C dX8_sign_25 rfl rfl ?_
    refine zq_aload_n (i := 0) C dX8_sign_26 rfl rfl ?_
    refine zq_get (kz := 13) C fk_X8_209 sm0 rfl dX8_sign_27 rfl ?_
    refine zq_if_ne (tgt := 53) C dX8_sign_30 rfl (fun h10 => ?_) (fun h10 => ?_)
    · have hJ := hJ.1 h10
      exact hj53 _ _ hJ
    · have hJ := hJ.2 h10
      refine zq_aload_n (i := 0) C dX8_sign_33 rfl rfl ?_
      refine zq_get (kz := 12) C fk_X8_206 sm0 rfl dX8_sign_34 rfl ?_
      refine zq_aload_n (i := 0) C dX8_sign_37 rfl rfl ?_
      refine zq_get (kz := 7) C fk_X8_203 sm0 rfl dX8_sign_38 rfl ?_
      refine zq_icmp_ge (tgt := 53) C dX8_sign_41 rfl (fun h9 => ?_) (fun h9 => ?_)
      · have hJ := hJ.1 h9
        exact hj53 _ _ hJ
      · have hJ := hJ.2 h9
        refine zq_iload_n (i := 3) C dX8_sign_44 rfl rfl ?_
        refine zq_iload_n (i := 1) C dX8_sign_45 rfl rfl ?_
        refine zq_iload_n (i := 2) C dX8_sign_46 rfl rfl ?_
        refine zq_callSi C [zi s0, zi a1, zi a2] (wM_in l _ _ _ _  hJ) ck_X8_79 st_X8_in rfl rfl rfl rfl rfl rfl dX8_sign_47 (fun r6 N7 hN7 => ?_)
        obtain ⟨rfl, hJ⟩ := hN7
        refine zq_if_ne (tgt := 57) C dX8_sign_50 rfl (fun h8 => ?_) (fun h8 => ?_)
        · have hJ := hJ.1 h8
          refine zq_iconst (x := 0) C dX8_sign_57 rfl ik_0 ?_
          exact hj58 _ _ _ hJ
        · have hJ := hJ.2 h8
          exact hj53 _ _ hJ
  refine zq_aload_n (i := 0) C dX8_sign_0 rfl rfl ?_
  refine zq_get (kz := 12) C fk_X8_206 sm0 rfl dX8_sign_1 rfl ?_
  refine zq_aload_n (i := 0) C dX8_sign_4 rfl rfl ?_
  refine zq_get (kz := 7) C fk_X8_203 sm0 rfl dX8_sign_5 rfl ?_
  refine zq_icmp_ge (tgt := 23) C dX8_sign_8 rfl (fun h12 => ?_) (fun h12 => ?_)
  · have hJ := hJ.1 h12
    refine zq_iconst (x := 0) C dX8_sign_23 rfl ik_0 ?_
    exact hj24 _ _ hJ
  · have hJ := hJ.2 h12
    refine zq_aload_n (i := 0) C dX8_sign_11 rfl rfl ?_
    refine zq_getr C fk_X8_22 sm0 rfl dX8_sign_12 ?_
    refine zq_aload_n (i := 0) C dX8_sign_15 rfl rfl ?_
    refine zq_get (kz := 12) C fk_X8_206 sm0 rfl dX8_sign_16 rfl ?_
    obtain ⟨h11, h11', hJ⟩ := hJ
    refine zq_iald C sm5 h11 h11' dX8_sign_19 ?_
    refine zq_goto (tgt := 24) C dX8_sign_20 rfl ?_
    exact hj24 _ _ hJ
set_option maxRecDepth 100000 in
set_option maxHeartbeats 4000000 in
theorem wM_isNext (l : Launch) (a1 : Int) (M : zM) {Φ : Int → Prop} (hJ : jM_isNext a1 M Φ) : zMet l yX8_isNext cX8_isNext 2 (some .boolean) 0 0 shM [zr 0, zi a1] M (zI (fun z M' => M = M' ∧ Φ z)) := by
  refine zq_enter [some (zr 0), some (zi a1)] (by decide) rfl (Nat.le_of_ble_eq_true rfl) rfl (fun X C => ?_)
  unfold jM_isNext at hJ
  refine zq_aload_n (i := 0) C dX8_isNext_0 rfl rfl ?_
  refine zq_get (kz := 13) C fk_X8_209 sm0 rfl dX8_isNext_1 rfl ?_
  refine zq_if_ne (tgt := 35) C dX8_isNext_4 rfl (fun h4 => ?_) (fun h4 => ?_)
  · have hJ := hJ.1 h4
    refine zq_iconst (x := 0) C dX8_isNext_35 rfl ik_0 ?_
    exact zq_zret C rfl (Or.inl rfl) ⟨_, rfl, rfl, hJ⟩ dX8_isNext_36
  · have hJ := hJ.2 h4
    refine zq_aload_n (i := 0) C dX8_isNext_7 rfl rfl ?_
    refine zq_get (kz := 12) C fk_X8_206 sm0 rfl dX8_isNext_8 rfl ?_
    refine zq_aload_n (i := 0) C dX8_isNext_11 rfl rfl ?_
    refine zq_get (kz := 7) C fk_X8_203 sm0 rfl dX8_isNext_12 rfl ?_
    refine zq_icmp_ge (tgt := 35) C dX8_isNext_15 rfl (fun h3 => ?_) (fun h3 => ?_)
    · have hJ := hJ.1 h3
      refine zq_iconst (x := 0) C dX8_isNext_35 rfl ik_0 ?_
      exact zq_zret C rfl (Or.inl rfl) ⟨_, rfl, rfl, hJ⟩ dX8_isNext_36
    · have hJ := hJ.2 h3
      refine zq_aload_n (i := 0) C dX8_isNext_18 rfl rfl ?_
      refine zq_getr C fk_X8_22 sm0 rfl dX8_isNext_19 ?_
      refine zq_aload_n (i := 0) C dX8_isNext_22 rfl rfl ?_
      refine zq_get (kz := 12) C fk_X8_206 sm0 rfl dX8_isNext_23 rfl ?_
      obtain ⟨h1, h1', hJ⟩ := hJ
      refine zq_iald C sm5 h1 h1' dX8_isNext_26 ?_
      refine zq_iload_n (i := 1) C dX8_isNext_27 rfl rfl ?_
      refine zq_icmp_ne (tgt := 35) C dX8_isNext_28 rfl (fun h2 => ?_) (fun h2 => ?_)
      · have hJ := hJ.1 h2
        refine zq_iconst (x := 0) C dX8_isNext_35 rfl ik_0 ?_
        exact zq_zret C rfl (Or.inl rfl) ⟨_, rfl, rfl, hJ⟩ dX8_isNext_36
      · have hJ := hJ.2 h2
        refine zq_iconst (x := 1) C dX8_isNext_31 rfl ik_1 ?_
        refine zq_goto (tgt := 36) C dX8_isNext_32 rfl ?_
        exact zq_zret C rfl (Or.inr rfl) ⟨_, rfl, rfl, hJ⟩ dX8_isNext_36
set_option maxRecDepth 100000 in
set_option maxHeartbeats 4000000 in
theorem wM_number (l : Launch) (a1 a2 : Int) (M : zM) {Φ : Int → zM → Prop} (hJ : jM_number a1 a2 M Φ) : zMet l yX8_number cX8_number 4 (some .int) 2 45 shM [zr 0, zi a1, zi a2] M (zI Φ) := by
  refine zq_enter [some (zr 0), some (zi a1), some (zi a2), none] (by decide) rfl (Nat.le_of_ble_eq_true rfl) rfl (fun X C => ?_)
  unfold jM_number at hJ
  have hl14 : ∀ (s : Int × zM), zwh (fun K s => jM_number_L14 a1 a2 K Φ (s.1) (s.2)) s → zG X (s.2) 14 [some (zr 0), some (zi a1), some (zi a2), some (zi (s.1))] [] := by
    refine zwh_sound ?_
    intro K14 s hK14 hJ
    obtain ⟨x3, M⟩ := s
    have hJ : jM_number_L14 a1 a2 K14 Φ x3 M := hJ
    show zG X M 14 [some (zr 0), some (zi a1), some (zi a2), some (zi x3)] []
    unfold jM_number_L14 at hJ
    refine zq_iload_n (i := 3) C dX8_number_14 rfl rfl ?_
    refine zq_if_le (tgt := 107) C dX8_number_15 rfl (fun h24 => ?_) (fun h24 => ?_)
    · have hJ := hJ.1 h24
      refine zq_iload_n (i := 3) C dX8_number_107 rfl rfl ?_
      exact zq_iret C rfl ⟨_, rfl, hJ⟩ dX8_number_108
    · have hJ := hJ.2 h24
      refine zq_aload_n (i := 0) C dX8_number_18 rfl rfl ?_
      refine zq_get (kz := 13) C fk_X8_209 sm0 rfl dX8_number_19 rfl ?_
      refine zq_if_ne (tgt := 107) C dX8_number_22 rfl (fun h23 => ?_) (fun h23 => ?_)
      · have hJ := hJ.1 h23
        refine zq_iload_n (i := 3) C dX8_number_107 rfl rfl ?_
        exact zq_iret C rfl ⟨_, rfl, hJ⟩ dX8_number_108
      · have hJ := hJ.2 h23
        refine zq_aload_n (i := 0) C dX8_number_25 rfl rfl ?_
        refine zq_get (kz := 12) C fk_X8_206 sm0 rfl dX8_number_26 rfl ?_
        refine zq_aload_n (i := 0) C dX8_number_29 rfl rfl ?_
        refine zq_get (kz := 7) C fk_X8_203 sm0 rfl dX8_number_30 rfl ?_
        refine zq_icmp_ge (tgt := 107) C dX8_number_33 rfl (fun h22 => ?_) (fun h22 => ?_)
        · have hJ := hJ.1 h22
          refine zq_iload_n (i := 3) C dX8_number_107 rfl rfl ?_
          exact zq_iret C rfl ⟨_, rfl, hJ⟩ dX8_number_108
        · have hJ := hJ.2 h22
          refine zq_aload_n (i := 0) C dX8_number_36 rfl rfl ?_
          refine zq_getr C fk_X8_22 sm0 rfl dX8_number_37 ?_
          refine zq_aload_n (i := 0) C dX8_number_40 rfl rfl ?_
          refine zq_get (kz := 12) C fk_X8_206 sm0 rfl dX8_number_41 rfl ?_
          obtain ⟨h6, h6', hJ⟩ := hJ
          refine zq_iald C sm5 h6 h6' dX8_number_44 ?_
          refine zq_bipush (x := 48) C dX8_number_45 bi_48 ik_48 ?_
          refine zq_bipush (x := 57) C dX8_number_47 bi_57 ik_57 ?_
          refine zq_callSi C [zi (M 5 (M 0 12)), zi 48, zi 57] (wM_in l _ _ _ _  hJ) ck_X8_79 st_X8_in rfl rfl rfl rfl rfl rfl dX8_number_49 (fun r7 N8 hN8 => ?_)
          obtain ⟨rfl, hJ⟩ := hN8
          refine zq_if_eq (tgt := 107) C dX8_number_52 rfl (fun h21 => ?_) (fun h21 => ?_)
          · have hJ := hJ.1 h21
            refine zq_iload_n (i := 3) C dX8_number_107 rfl rfl ?_
            exact zq_iret C rfl ⟨_, rfl, hJ⟩ dX8_number_108
          · have hJ := hJ.2 h21
            refine zq_bipush (x := 10) C dX8_number_55 bi_10 ik_10 ?_
            refine zq_iload_n (i := 3) C dX8_number_57 rfl rfl ?_
            obtain ⟨h9, hJ⟩ := hJ
            refine zq_imul C dX8_number_58 h9 ?_
            refine zq_aload_n (i := 0) C dX8_number_59 rfl rfl ?_
            refine zq_getr C fk_X8_22 sm0 rfl dX8_number_60 ?_
            refine zq_aload_n (i := 0) C dX8_number_63 rfl rfl ?_
            refine zq_get (kz := 12) C fk_X8_206 sm0 rfl dX8_number_64 rfl ?_
            obtain ⟨h10, h10', hJ⟩ := hJ
            refine zq_iald C sm5 h10 h10' dX8_number_67 ?_
            obtain ⟨h11, hJ⟩ := hJ
            refine zq_iadd C dX8_number_68 h11 ?_
            refine zq_bipush (x := 48) C dX8_number_69 bi_48 ik_48 ?_
            obtain ⟨h12, hJ⟩ := hJ
            refine zq_isub C dX8_number_71 h12 ?_
            refine zq_iload_n (i := 2) C dX8_number_72 rfl rfl ?_
            refine zq_icmp_gt (tgt := 107) C dX8_number_73 rfl (fun h20 => ?_) (fun h20 => ?_)
            · have hJ := hJ.1 h20
              refine zq_iload_n (i := 3) C dX8_number_107 rfl rfl ?_
              exact zq_iret C rfl ⟨_, rfl, hJ⟩ dX8_number_108
            · have hJ := hJ.2 h20
              refine zq_bipush (x := 10) C dX8_number_76 bi_10 ik_10 ?_
              refine zq_iload_n (i := 3) C dX8_number_78 rfl rfl ?_
              obtain ⟨h13, hJ⟩ := hJ
              refine zq_imul C dX8_number_79 h13 ?_
              refine zq_aload_n (i := 0) C dX8_number_80 rfl rfl ?_
              refine zq_getr C fk_X8_22 sm0 rfl dX8_number_81 ?_
              refine zq_aload_n (i := 0) C dX8_number_84 rfl rfl ?_
              refine zq_get (kz := 12) C fk_X8_206 sm0 rfl dX8_number_85 rfl ?_
              obtain ⟨h14, h14', hJ⟩ := hJ
              refine zq_iald C sm5 h14 h14' dX8_number_88 ?_
              obtain ⟨h15, hJ⟩ := hJ
              refine zq_iadd C dX8_number_89 h15 ?_
              refine zq_bipush (x := 48) C dX8_number_90 bi_48 ik_48 ?_
              obtain ⟨h16, hJ⟩ := hJ
              refine zq_isub C dX8_number_92 h16 ?_
              refine zq_istoreN_n (i := 3) C (fun v => [some (zr 0), some (zi a1), some (zi a2), some (zi v)]) dX8_number_93 rfl (Nat.le_of_ble_eq_true rfl) (fun _ => rfl) (fun v3_17 hv3_17 => ?_)
              have hJ := hJ v3_17 hv3_17
              refine zq_aload_n (i := 0) C dX8_number_94 rfl rfl ?_
              refine zq_dup C dX8_number_95 rfl ?_
              refine zq_get (kz := 12) C fk_X8_206 sm0 rfl dX8_number_96 rfl ?_
              refine zq_iconst (x := 1) C dX8_number_99 rfl ik_1 ?_
              obtain ⟨h18, hJ⟩ := hJ
              refine zq_iadd C dX8_number_100 h18 ?_
              refine zq_put (kz := 12) C fk_X8_206 sm0 rfl dX8_number_101 rfl (fun M19 hM19 => ?_)
              have hJ := hJ M19 hM19
              refine zq_goto (tgt := 14) C dX8_number_104 rfl ?_
              exact hK14 _ hJ
  refine zq_aload_n (i := 0) C dX8_number_0 rfl rfl ?_
  refine zq_bipush (x := 48) C dX8_number_1 bi_48 ik_48 ?_
  refine zq_iload_n (i := 1) C dX8_number_3 rfl rfl ?_
  obtain ⟨h1, hJ⟩ := hJ
  refine zq_iadd C dX8_number_4 h1 ?_
  refine zq_bipush (x := 57) C dX8_number_5 bi_57 ik_57 ?_
  refine zq_callVi C [zi (48 + a1), zi 57] (wM_sign l _ _ _  hJ) ck_X8_213 iv_X8_sign rfl sm0 rfl rfl rfl rfl rfl rfl dX8_number_7 (fun r2 M3 hJ => ?_)
  refine zq_bipush (x := 48) C dX8_number_10 bi_48 ik_48 ?_
  obtain ⟨h4, hJ⟩ := hJ
  refine zq_isub C dX8_number_12 h4 ?_
  refine zq_istoreN_n (i := 3) C (fun v => [some (zr 0), some (zi a1), some (zi a2), some (zi v)]) dX8_number_13 rfl (Nat.le_of_ble_eq_true rfl) (fun _ => rfl) (fun v3_5 hv3_5 => ?_)
  have hJ := hJ v3_5 hv3_5
  exact hl14 _ hJ
set_option maxRecDepth 100000 in
set_option maxHeartbeats 4000000 in
theorem wM_part (l : Launch) (a1 : Int) (M : zM) {Φ : Int → zM → Prop} (hJ : jM_part a1 M Φ) : zMet l yX8_part cX8_part 6 (some .int) 5 114 shM [zr 0, zi a1] M (zI Φ) := by
  refine zq_enter [some (zr 0), some (zi a1), none, none, none, none] (by decide) rfl (Nat.le_of_ble_eq_true rfl) rfl (fun X C => ?_)
  unfold jM_part at hJ
  have hj78 : ∀ (x2 : Int) (M : zM), jM_part_J78 a1 Φ x2 M → zG X M 78 [some (zr 0), some (zi a1), some (zi x2), none, none, none] [] := by
    intro x2 M hJ
    unfold jM_part_J78 at hJ
    refine zq_aload_n (i := 0) C dX8_part_78 rfl rfl ?_
    refine zq_bipush (x := 62) C dX8_part_79 bi_62 ik_62 ?_
    refine zq_bipush (x := 62) C dX8_part_81 bi_62 ik_62 ?_
    refine zq_callVi C [zi 62, zi 62] (wM_sign l _ _ _  hJ) ck_X8_213 iv_X8_sign rfl sm0 rfl rfl rfl rfl rfl rfl dX8_part_83 (fun r3 M4 hJ => ?_)
    refine zq_istore_n (i := 3) (lv' := [some (zr 0), some (zi a1), some (zi x2), some (zi r3), none, none]) C dX8_part_86 rfl (Nat.le_of_ble_eq_true rfl) rfl ?_
    refine zq_aload_n (i := 0) C dX8_part_87 rfl rfl ?_
    refine zq_iconst (x := 0) C dX8_part_88 rfl ik_0 ?_
    refine zq_bipush (x := 89) C dX8_part_89 bi_89 ik_89 ?_
    refine zq_callVi C [zi 0, zi 89] (wM_number l _ _ _  hJ) ck_X8_216 iv_X8_number rfl sm0 rfl rfl rfl rfl rfl rfl dX8_part_91 (fun r5 M6 hJ => ?_)
    refine zq_istore (lv' := [some (zr 0), some (zi a1), some (zi x2), some (zi r3), some (zi r5), none]) C dX8_part_94 (Nat.le_of_ble_eq_true rfl) rfl ?_
    refine zq_iload_n (i := 1) C dX8_part_96 rfl rfl ?_
    refine zq_if_eq (tgt := 110) C dX8_part_97 rfl (fun h9 => ?_) (fun h9 => ?_)
    · have hJ := hJ.1 h9
      refine zq_iconst (x := 0) C dX8_part_110 rfl ik_0 ?_
      exact zq_iret C rfl ⟨_, rfl, hJ⟩ dX8_part_111
    · have hJ := hJ.2 h9
      refine zq_aload_n (i := 0) C dX8_part_100 rfl rfl ?_
      refine zq_iload_n (i := 2) C dX8_part_101 rfl rfl ?_
      refine zq_iload C dX8_part_102 rfl ?_
      refine zq_callVi C [zi x2, zi r5] (wM_addsArrow l _ _ _  hJ) ck_X8_173 iv_X8_addsArrow rfl sm0 rfl rfl rfl rfl rfl rfl dX8_part_104 (fun r7 M8 hJ => ?_)
      refine zq_goto (tgt := 111) C dX8_part_107 rfl ?_
      exact zq_iret C rfl ⟨_, rfl, hJ⟩ dX8_part_111
  refine zq_aload_n (i := 0) C dX8_part_0 rfl rfl ?_
  refine zq_iconst (x := 0) C dX8_part_1 rfl ik_0 ?_
  refine zq_bipush (x := 89) C dX8_part_2 bi_89 ik_89 ?_
  refine zq_callVi C [zi 0, zi 89] (wM_number l _ _ _  hJ) ck_X8_216 iv_X8_number rfl sm0 rfl rfl rfl rfl rfl rfl dX8_part_4 (fun r1 M2 hJ => ?_)
  refine zq_istore_n (i := 2) (lv' := [some (zr 0), some (zi a1), some (zi r1), none, none, none]) C dX8_part_7 rfl (Nat.le_of_ble_eq_true rfl) rfl ?_
  refine zq_iload_n (i := 2) C dX8_part_8 rfl rfl ?_
  refine zq_bipush (x := 12) C dX8_part_9 bi_12 ik_12 ?_
  refine zq_icmp_ge (tgt := 78) C dX8_part_11 rfl (fun h24 => ?_) (fun h24 => ?_)
  · have hJ := hJ.1 h24
    exact hj78 _ _ hJ
  · have hJ := hJ.2 h24
    refine zq_aload_n (i := 0) C dX8_part_14 rfl rfl ?_
    refine zq_bipush (x := 64) C dX8_part_15 bi_64 ik_64 ?_
    refine zq_callVi C [zi 64] (wM_isNext l _ _  hJ) ck_X8_219 iv_X8_isNext rfl sm0 rfl rfl rfl rfl rfl rfl dX8_part_17 (fun r10 N11 hN11 => ?_)
    obtain ⟨rfl, hJ⟩ := hN11
    refine zq_if_eq (tgt := 78) C dX8_part_20 rfl (fun h23 => ?_) (fun h23 => ?_)
    · have hJ := hJ.1 h23
      exact hj78 _ _ hJ
    · have hJ := hJ.2 h23
      refine zq_aload_n (i := 0) C dX8_part_23 rfl rfl ?_
      refine zq_dup C dX8_part_24 rfl ?_
      refine zq_get (kz := 12) C fk_X8_206 sm0 rfl dX8_part_25 rfl ?_
      refine zq_iconst (x := 1) C dX8_part_28 rfl ik_1 ?_
      obtain ⟨h12, hJ⟩ := hJ
      refine zq_iadd C dX8_part_29 h12 ?_
      refine zq_put (kz := 12) C fk_X8_206 sm0 rfl dX8_part_30 rfl (fun M13 hM13 => ?_)
      have hJ := hJ M13 hM13
      refine zq_aload_n (i := 0) C dX8_part_33 rfl rfl ?_
      refine zq_iconst (x := 0) C dX8_part_34 rfl ik_0 ?_
      refine zq_sipush (x := 199) C dX8_part_35 si_199 ik_199 ?_
      refine zq_callVi C [zi 0, zi 199] (wM_number l _ _ _  hJ) ck_X8_216 iv_X8_number rfl sm0 rfl rfl rfl rfl rfl rfl dX8_part_38 (fun r14 M15 hJ => ?_)
      refine zq_istore_n (i := 3) (lv' := [some (zr 0), some (zi a1), some (zi r1), some (zi r14), none, none]) C dX8_part_41 rfl (Nat.le_of_ble_eq_true rfl) rfl ?_
      refine zq_aload_n (i := 0) C dX8_part_42 rfl rfl ?_
      refine zq_bipush (x := 43) C dX8_part_43 bi_43 ik_43 ?_
      refine zq_bipush (x := 43) C dX8_part_45 bi_43 ik_43 ?_
      refine zq_callVi C [zi 43, zi 43] (wM_sign l _ _ _  hJ) ck_X8_213 iv_X8_sign rfl sm0 rfl rfl rfl rfl rfl rfl dX8_part_47 (fun r16 M17 hJ => ?_)
      refine zq_istore (lv' := [some (zr 0), some (zi a1), some (zi r1), some (zi r14), some (zi r16), none]) C dX8_part_50 (Nat.le_of_ble_eq_true rfl) rfl ?_
      refine zq_aload_n (i := 0) C dX8_part_52 rfl rfl ?_
      refine zq_iconst (x := 1) C dX8_part_53 rfl ik_1 ?_
      refine zq_bipush (x := 30) C dX8_part_54 bi_30 ik_30 ?_
      refine zq_callVi C [zi 1, zi 30] (wM_number l _ _ _  hJ) ck_X8_216 iv_X8_number rfl sm0 rfl rfl rfl rfl rfl rfl dX8_part_56 (fun r18 M19 hJ => ?_)
      refine zq_istore (lv' := [some (zr 0), some (zi a1), some (zi r1), some (zi r14), some (zi r16), some (zi r18)]) C dX8_part_59 (Nat.le_of_ble_eq_true rfl) rfl ?_
      refine zq_iload_n (i := 1) C dX8_part_61 rfl rfl ?_
      refine zq_if_eq (tgt := 76) C dX8_part_62 rfl (fun h22 => ?_) (fun h22 => ?_)
      · have hJ := hJ.1 h22
        refine zq_iconst (x := 0) C dX8_part_76 rfl ik_0 ?_
        exact zq_iret C rfl ⟨_, rfl, hJ⟩ dX8_part_77
      · have hJ := hJ.2 h22
        refine zq_aload_n (i := 0) C dX8_part_65 rfl rfl ?_
        refine zq_iload_n (i := 2) C dX8_part_66 rfl rfl ?_
        refine zq_iload_n (i := 3) C dX8_part_67 rfl rfl ?_
        refine zq_iload C dX8_part_68 rfl ?_
        refine zq_callVi C [zi r1, zi r14, zi r18] (wM_addsBar l _ _ _ _  hJ) ck_X8_166 iv_X8_addsBar rfl sm0 rfl rfl rfl rfl rfl rfl dX8_part_70 (fun r20 M21 hJ => ?_)
        refine zq_goto (tgt := 77) C dX8_part_73 rfl ?_
        exact zq_iret C rfl ⟨_, rfl, hJ⟩ dX8_part_77
set_option maxRecDepth 100000 in
set_option maxHeartbeats 4000000 in
theorem wM_go (l : Launch) (a1 : Int) (M : zM) {Φ : Int → zM → Prop} (hJ : jM_go a1 M Φ) : zMet l yX8_go cX8_go 6 (some .int) 6 139 shM [zr 0, zi a1] M (zI Φ) := by
  refine zq_enter [some (zr 0), some (zi a1), none, none, none, none] (by decide) rfl (Nat.le_of_ble_eq_true rfl) rfl (fun X C => ?_)
  unfold jM_go at hJ
  have hl14 : ∀ (s : Int × Int × zM), zwh (fun K s => jM_go_L14 a1 K Φ (s.1) (s.2.1) (s.2.2)) s → zG X (s.2.2) 14 [some (zr 0), some (zi a1), some (zi (s.1)), some (zi (s.2.1)), none, none] [] := by
    refine zwh_sound ?_
    intro K14 s hK14 hJ
    obtain ⟨x2, x3, M⟩ := s
    have hJ : jM_go_L14 a1 K14 Φ x2 x3 M := hJ
    show zG X M 14 [some (zr 0), some (zi a1), some (zi x2), some (zi x3), none, none] []
    unfold jM_go_L14 at hJ
    have hj59 : ∀ (x2 s0 : Int) (M : zM), jM_go_J59 a1 K14 Φ x2 s0 M → zG X M 59 [some (zr 0), some (zi a1), some (zi x2), none, none, none] [zi s0] := by
      intro x2 s0 M hJ
      unfold jM_go_J59 at hJ
      refine zq_istore_n (i := 3) (lv' := [some (zr 0), some (zi a1), some (zi x2), some (zi s0), none, none]) C dX8_go_59 rfl (Nat.le_of_ble_eq_true rfl) rfl ?_
      refine zq_iload_n (i := 3) C dX8_go_60 rfl rfl ?_
      refine zq_if_eq (tgt := 87) C dX8_go_61 rfl (fun h9 => ?_) (fun h9 => ?_)
      · have hJ := hJ.1 h9
        refine zq_goto (tgt := 14) C dX8_go_87 rfl ?_
        exact hK14 _ hJ
      · have hJ := hJ.2 h9
        refine zq_aload_n (i := 0) C dX8_go_64 rfl rfl ?_
        refine zq_bipush (x := 59) C dX8_go_65 bi_59 ik_59 ?_
        refine zq_bipush (x := 59) C dX8_go_67 bi_59 ik_59 ?_
        refine zq_callVi C [zi 59, zi 59] (wM_sign l _ _ _  hJ) ck_X8_213 iv_X8_sign rfl sm0 rfl rfl rfl rfl rfl rfl dX8_go_69 (fun r6 M7 hJ => ?_)
        refine zq_istore (lv' := [some (zr 0), some (zi a1), some (zi x2), some (zi s0), none, some (zi r6)]) C dX8_go_72 (Nat.le_of_ble_eq_true rfl) rfl ?_
        refine zq_aload_n (i := 0) C dX8_go_74 rfl rfl ?_
        refine zq_get (kz := 13) C fk_X8_209 sm0 rfl dX8_go_75 rfl ?_
        refine zq_if_ne (tgt := 85) C dX8_go_78 rfl (fun h8 => ?_) (fun h8 => ?_)
        · have hJ := hJ.1 h8
          refine zq_iconst (x := 0) C dX8_go_85 rfl ik_0 ?_
          refine zq_istore_n (i := 3) (lv' := [some (zr 0), some (zi a1), some (zi x2), some (zi 0), none, some (zi r6)]) C dX8_go_86 rfl (Nat.le_of_ble_eq_true rfl) rfl ?_
          refine zq_goto (tgt := 14) C dX8_go_87 rfl ?_
          refine zq_weak [some (zr 0), some (zi a1), some (zi x2), some (zi 0), none, none] ⟨Or.inr rfl, Or.inr rfl, Or.inr rfl, Or.inr rfl, Or.inl rfl, Or.inl rfl, trivial⟩ ?_
          exact hK14 _ hJ
        · have hJ := hJ.2 h8
          refine zq_iconst (x := 1) C dX8_go_81 rfl ik_1 ?_
          refine zq_goto (tgt := 86) C dX8_go_82 rfl ?_
          refine zq_istore_n (i := 3) (lv' := [some (zr 0), some (zi a1), some (zi x2), some (zi 1), none, some (zi r6)]) C dX8_go_86 rfl (Nat.le_of_ble_eq_true rfl) rfl ?_
          refine zq_goto (tgt := 14) C dX8_go_87 rfl ?_
          refine zq_weak [some (zr 0), some (zi a1), some (zi x2), some (zi 1), none, none] ⟨Or.inr rfl, Or.inr rfl, Or.inr rfl, Or.inr rfl, Or.inl rfl, Or.inl rfl, trivial⟩ ?_
          exact hK14 _ hJ
    have hj58 : ∀ (x2 : Int) (M : zM), jM_go_J58 a1 K14 Φ x2 M → zG X M 58 [some (zr 0), some (zi a1), some (zi x2), none, none, none] [] := by
      intro x2 M hJ
      unfold jM_go_J58 at hJ
      refine zq_iconst (x := 0) C dX8_go_58 rfl ik_0 ?_
      exact hj59 _ _ _ hJ
    refine zq_iload_n (i := 3) C dX8_go_14 rfl rfl ?_
    refine zq_if_eq (tgt := 90) C dX8_go_15 rfl (fun h13 => ?_) (fun h13 => ?_)
    · have hJ := hJ.1 h13
      refine zq_iload_n (i := 2) C dX8_go_90 rfl rfl ?_
      exact zq_iret C rfl ⟨_, rfl, hJ⟩ dX8_go_91
    · have hJ := hJ.2 h13
      refine zq_aload_n (i := 0) C dX8_go_18 rfl rfl ?_
      refine zq_iload_n (i := 1) C dX8_go_19 rfl rfl ?_
      refine zq_callVi C [zi a1] (wM_part l _ _  hJ) ck_X8_222 iv_X8_part rfl sm0 rfl rfl rfl rfl rfl rfl dX8_go_20 (fun r3 M4 hJ => ?_)
      refine zq_istore (lv' := [some (zr 0), some (zi a1), some (zi x2), some (zi x3), some (zi r3), none]) C dX8_go_23 (Nat.le_of_ble_eq_true rfl) rfl ?_
      refine zq_iload C dX8_go_25 rfl ?_
      refine zq_if_ge (tgt := 33) C dX8_go_27 rfl (fun h12 => ?_) (fun h12 => ?_)
      · have hJ := hJ.1 h12
        obtain ⟨hv2_5, hJ⟩ := hJ
        refine zq_iinc (y := x2 + 1) (lv' := [some (zr 0), some (zi a1), some (zi (x2 + 1)), some (zi x3), some (zi r3), none]) C dX8_go_33 rfl rfl hv2_5 rfl ?_
        obtain ⟨v2_5, ev2_5⟩ : ∃ z, z = x2 + 1 := ⟨_, rfl⟩
        rw [← ev2_5]
        have hJ := hJ v2_5 ev2_5
        refine zq_aload_n (i := 0) C dX8_go_36 rfl rfl ?_
        refine zq_get (kz := 13) C fk_X8_209 sm0 rfl dX8_go_37 rfl ?_
        refine zq_if_ne (tgt := 58) C dX8_go_40 rfl (fun h11 => ?_) (fun h11 => ?_)
        · have hJ := hJ.1 h11
          refine zq_weak [some (zr 0), some (zi a1), some (zi v2_5), none, none, none] ⟨Or.inr rfl, Or.inr rfl, Or.inr rfl, Or.inl rfl, Or.inl rfl, Or.inl rfl, trivial⟩ ?_
          exact hj58 _ _ hJ
        · have hJ := hJ.2 h11
          refine zq_aload_n (i := 0) C dX8_go_43 rfl rfl ?_
          refine zq_get (kz := 12) C fk_X8_206 sm0 rfl dX8_go_44 rfl ?_
          refine zq_aload_n (i := 0) C dX8_go_47 rfl rfl ?_
          refine zq_get (kz := 7) C fk_X8_203 sm0 rfl dX8_go_48 rfl ?_
          refine zq_icmp_ge (tgt := 58) C dX8_go_51 rfl (fun h10 => ?_) (fun h10 => ?_)
          · have hJ := hJ.1 h10
            refine zq_weak [some (zr 0), some (zi a1), some (zi v2_5), none, none, none] ⟨Or.inr rfl, Or.inr rfl, Or.inr rfl, Or.inl rfl, Or.inl rfl, Or.inl rfl, trivial⟩ ?_
            exact hj58 _ _ hJ
          · have hJ := hJ.2 h10
            refine zq_iconst (x := 1) C dX8_go_54 rfl ik_1 ?_
            refine zq_goto (tgt := 59) C dX8_go_55 rfl ?_
            refine zq_weak [some (zr 0), some (zi a1), some (zi v2_5), none, none, none] ⟨Or.inr rfl, Or.inr rfl, Or.inr rfl, Or.inl rfl, Or.inl rfl, Or.inl rfl, trivial⟩ ?_
            exact hj59 _ _ _ hJ
      · have hJ := hJ.2 h12
        refine zq_iload C dX8_go_30 rfl ?_
        exact zq_iret C rfl ⟨_, rfl, hJ⟩ dX8_go_32
  refine zq_aload_n (i := 0) C dX8_go_0 rfl rfl ?_
  refine zq_iconst (x := 0) C dX8_go_1 rfl ik_0 ?_
  refine zq_put (kz := 12) C fk_X8_206 sm0 rfl dX8_go_2 rfl (fun M1 hM1 => ?_)
  have hJ := hJ M1 hM1
  refine zq_aload_n (i := 0) C dX8_go_5 rfl rfl ?_
  refine zq_iconst (x := 0) C dX8_go_6 rfl ik_0 ?_
  refine zq_putz (kz := 13) C fk_X8_209 (Or.inl rfl) sm0 rfl dX8_go_7 rfl (fun M2 hM2 => ?_)
  have hJ := hJ M2 hM2
  refine zq_iconst (x := 0) C dX8_go_10 rfl ik_0 ?_
  refine zq_istore_n (i := 2) (lv' := [some (zr 0), some (zi a1), some (zi 0), none, none, none]) C dX8_go_11 rfl (Nat.le_of_ble_eq_true rfl) rfl ?_
  refine zq_iconst (x := 1) C dX8_go_12 rfl ik_1 ?_
  refine zq_istore_n (i := 3) (lv' := [some (zr 0), some (zi a1), some (zi 0), some (zi 1), none, none]) C dX8_go_13 rfl (Nat.le_of_ble_eq_true rfl) rfl ?_
  exact hl14 _ hJ
set_option maxRecDepth 100000 in
set_option maxHeartbeats 4000000 in
theorem wM_fault (l : Launch)  (M : zM) {Φ : Int → zM → Prop} (hJ : jM_fault  M Φ) : zMet l yX8_fault cX8_fault 2 (some .int) 7 164 shM [zr 0] M (zI Φ) := by
  refine zq_enter [some (zr 0), none] (by decide) rfl (Nat.le_of_ble_eq_true rfl) rfl (fun X C => ?_)
  unfold jM_fault at hJ
  refine zq_aload_n (i := 0) C dX8_fault_0 rfl rfl ?_
  refine zq_iconst (x := 0) C dX8_fault_1 rfl ik_0 ?_
  refine zq_callVi C [zi 0] (wM_go l _ _  hJ) ck_X8_225 iv_X8_go rfl sm0 rfl rfl rfl rfl rfl rfl dX8_fault_2 (fun r1 M2 hJ => ?_)
  refine zq_istore_n (i := 1) (lv' := [some (zr 0), some (zi r1)]) C dX8_fault_5 rfl (Nat.le_of_ble_eq_true rfl) rfl ?_
  refine zq_aload_n (i := 0) C dX8_fault_6 rfl rfl ?_
  refine zq_get (kz := 13) C fk_X8_209 sm0 rfl dX8_fault_7 rfl ?_
  refine zq_if_eq (tgt := 20) C dX8_fault_10 rfl (fun h3 => ?_) (fun h3 => ?_)
  · have hJ := hJ.1 h3
    refine zq_bipush (x := (-5)) C dX8_fault_20 bi_m5 ik_m5 ?_
    exact zq_iret C rfl ⟨_, rfl, hJ⟩ dX8_fault_22
  · have hJ := hJ.2 h3
    refine zq_aload_n (i := 0) C dX8_fault_13 rfl rfl ?_
    refine zq_get (kz := 12) C fk_X8_206 sm0 rfl dX8_fault_14 rfl ?_
    refine zq_goto (tgt := 22) C dX8_fault_17 rfl ?_
    exact zq_iret C rfl ⟨_, rfl, hJ⟩ dX8_fault_22
set_option maxRecDepth 100000 in
set_option maxHeartbeats 4000000 in
theorem wM_addAll (l : Launch)  (M : zM) {Φ : Int → zM → Prop} (hJ : jM_addAll  M Φ) : zMet l yX8_addAll cX8_addAll 2 (some .int) 7 164 shM [zr 0] M (zI Φ) := by
  refine zq_enter [some (zr 0), none] (by decide) rfl (Nat.le_of_ble_eq_true rfl) rfl (fun X C => ?_)
  unfold jM_addAll at hJ
  refine zq_aload_n (i := 0) C dX8_addAll_0 rfl rfl ?_
  refine zq_iconst (x := 0) C dX8_addAll_1 rfl ik_0 ?_
  refine zq_callVi C [zi 0] (wM_go l _ _  hJ) ck_X8_225 iv_X8_go rfl sm0 rfl rfl rfl rfl rfl rfl dX8_addAll_2 (fun r1 M2 hJ => ?_)
  refine zq_istore_n (i := 1) (lv' := [some (zr 0), some (zi r1)]) C dX8_addAll_5 rfl (Nat.le_of_ble_eq_true rfl) rfl ?_
  refine zq_aload_n (i := 0) C dX8_addAll_6 rfl rfl ?_
  refine zq_get (kz := 13) C fk_X8_209 sm0 rfl dX8_addAll_7 rfl ?_
  refine zq_if_eq (tgt := 21) C dX8_addAll_10 rfl (fun h9 => ?_) (fun h9 => ?_)
  · have hJ := hJ.1 h9
    refine zq_aload_n (i := 0) C dX8_addAll_21 rfl rfl ?_
    refine zq_callVv C [] (wM_putAside l _  hJ) ck_X8_163 iv_X8_putAside rfl sm0 rfl rfl rfl rfl rfl rfl dX8_addAll_22 (fun M3 hJ => ?_)
    refine zq_aload_n (i := 0) C dX8_addAll_25 rfl rfl ?_
    refine zq_aload_n (i := 0) C dX8_addAll_26 rfl rfl ?_
    refine zq_iconst (x := 1) C dX8_addAll_27 rfl ik_1 ?_
    refine zq_callVi C [zi 1] (wM_go l _ _  hJ) ck_X8_225 iv_X8_go rfl sm0 rfl rfl rfl rfl rfl rfl dX8_addAll_28 (fun r4 M5 hJ => ?_)
    refine zq_callVi C [zi r4] (wM_act l _ _  hJ) ck_X8_170 iv_X8_act rfl sm0 rfl rfl rfl rfl rfl rfl dX8_addAll_31 (fun r6 M7 hJ => ?_)
    exact zq_iret C rfl ⟨_, rfl, hJ⟩ dX8_addAll_34
  · have hJ := hJ.2 h9
    refine zq_bipush (x := (-100)) C dX8_addAll_13 bi_m100 ik_m100 ?_
    refine zq_aload_n (i := 0) C dX8_addAll_15 rfl rfl ?_
    refine zq_get (kz := 12) C fk_X8_206 sm0 rfl dX8_addAll_16 rfl ?_
    obtain ⟨h8, hJ⟩ := hJ
    refine zq_isub C dX8_addAll_19 h8 ?_
    exact zq_iret C rfl ⟨_, rfl, hJ⟩ dX8_addAll_20
set_option maxRecDepth 100000 in
set_option maxHeartbeats 4000000 in
theorem wM_undo (l : Launch)  (M : zM) {Φ : Int → zM → Prop} (hJ : jM_undo  M Φ) : zMet l yX8_undo cX8_undo 2 (some .int) 0 0 shM [zr 0] M (zI Φ) := by
  refine zq_enter [some (zr 0), none] (by decide) rfl (Nat.le_of_ble_eq_true rfl) rfl (fun X C => ?_)
  unfold jM_undo at hJ
  have hl22 : ∀ (s : Int × zM), zwh (fun K s => jM_undo_L22  K Φ (s.1) (s.2)) s → zG X (s.2) 22 [some (zr 0), some (zi (s.1))] [] := by
    refine zwh_sound ?_
    intro K22 s hK22 hJ
    obtain ⟨x1, M⟩ := s
    have hJ : jM_undo_L22  K22 Φ x1 M := hJ
    show zG X M 22 [some (zr 0), some (zi x1)] []
    unfold jM_undo_L22 at hJ
    refine zq_iload_n (i := 1) C dX8_undo_22 rfl rfl ?_
    refine zq_sipush (x := 447) C dX8_undo_23 si_447 ik_447 ?_
    refine zq_icmp_ge (tgt := 56) C dX8_undo_26 rfl (fun h9 => ?_) (fun h9 => ?_)
    · have hJ := hJ.1 h9
      refine zq_aload_n (i := 0) C dX8_undo_56 rfl rfl ?_
      refine zq_get (kz := 3) C fk_X8_44 sm0 rfl dX8_undo_57 rfl ?_
      exact zq_iret C rfl ⟨_, rfl, hJ⟩ dX8_undo_60
    · have hJ := hJ.2 h9
      refine zq_aload_n (i := 0) C dX8_undo_29 rfl rfl ?_
      refine zq_getr C fk_X8_7 sm0 rfl dX8_undo_30 ?_
      refine zq_iload_n (i := 1) C dX8_undo_33 rfl rfl ?_
      refine zq_aload_n (i := 0) C dX8_undo_34 rfl rfl ?_
      refine zq_getr C fk_X8_16 sm0 rfl dX8_undo_35 ?_
      refine zq_sipush (x := 447) C dX8_undo_38 si_447 ik_447 ?_
      refine zq_aload_n (i := 0) C dX8_undo_41 rfl rfl ?_
      refine zq_get (kz := 3) C fk_X8_44 sm0 rfl dX8_undo_42 rfl ?_
      obtain ⟨h3, hJ⟩ := hJ
      refine zq_imul C dX8_undo_45 h3 ?_
      refine zq_iload_n (i := 1) C dX8_undo_46 rfl rfl ?_
      obtain ⟨h4, hJ⟩ := hJ
      refine zq_iadd C dX8_undo_47 h4 ?_
      obtain ⟨h5, h5', hJ⟩ := hJ
      refine zq_iald C sm3 h5 h5' dX8_undo_48 ?_
      obtain ⟨h6, h6', hJ⟩ := hJ
      refine zq_iast C sm1 h6 h6' dX8_undo_49 (fun M7 hM7 => ?_)
      have hJ := hJ M7 hM7
      obtain ⟨hv1_8, hJ⟩ := hJ
      refine zq_iinc (y := x1 + 1) (lv' := [some (zr 0), some (zi (x1 + 1))]) C dX8_undo_50 rfl rfl hv1_8 rfl ?_
      obtain ⟨v1_8, ev1_8⟩ : ∃ z, z = x1 + 1 := ⟨_, rfl⟩
      rw [← ev1_8]
      have hJ := hJ v1_8 ev1_8
      refine zq_goto (tgt := 22) C dX8_undo_53 rfl ?_
      exact hK22 _ hJ
  refine zq_aload_n (i := 0) C dX8_undo_0 rfl rfl ?_
  refine zq_get (kz := 3) C fk_X8_44 sm0 rfl dX8_undo_1 rfl ?_
  refine zq_if_ne (tgt := 10) C dX8_undo_4 rfl (fun h10 => ?_) (fun h10 => ?_)
  · have hJ := hJ.1 h10
    refine zq_aload_n (i := 0) C dX8_undo_10 rfl rfl ?_
    refine zq_dup C dX8_undo_11 rfl ?_
    refine zq_get (kz := 3) C fk_X8_44 sm0 rfl dX8_undo_12 rfl ?_
    refine zq_iconst (x := 1) C dX8_undo_15 rfl ik_1 ?_
    obtain ⟨h1, hJ⟩ := hJ
    refine zq_isub C dX8_undo_16 h1 ?_
    refine zq_put (kz := 3) C fk_X8_44 sm0 rfl dX8_undo_17 rfl (fun M2 hM2 => ?_)
    have hJ := hJ M2 hM2
    refine zq_iconst (x := 0) C dX8_undo_20 rfl ik_0 ?_
    refine zq_istore_n (i := 1) (lv' := [some (zr 0), some (zi 0)]) C dX8_undo_21 rfl (Nat.le_of_ble_eq_true rfl) rfl ?_
    exact hl22 _ hJ
  · have hJ := hJ.2 h10
    refine zq_bipush (x := (-5)) C dX8_undo_7 bi_m5 ik_m5 ?_
    exact zq_iret C rfl ⟨_, rfl, hJ⟩ dX8_undo_9
set_option maxRecDepth 100000 in
set_option maxHeartbeats 4000000 in
theorem wM_keep (l : Launch)  (M : zM) {Φ : Int → zM → Prop} (hJ : jM_keep  M Φ) : zMet l yX8_keep cX8_keep 2 (some .int) 0 0 shM [zr 0] M (zI Φ) := by
  refine zq_enter [some (zr 0), none] (by decide) rfl (Nat.le_of_ble_eq_true rfl) rfl (fun X C => ?_)
  unfold jM_keep at hJ
  have hl2 : ∀ (s : Int × zM), zwh (fun K s => jM_keep_L2  K Φ (s.1) (s.2)) s → zG X (s.2) 2 [some (zr 0), some (zi (s.1))] [] := by
    refine zwh_sound ?_
    intro K2 s hK2 hJ
    obtain ⟨x1, M⟩ := s
    have hJ : jM_keep_L2  K2 Φ x1 M := hJ
    show zG X M 2 [some (zr 0), some (zi x1)] []
    unfold jM_keep_L2 at hJ
    refine zq_iload_n (i := 1) C dX8_keep_2 rfl rfl ?_
    refine zq_sipush (x := 447) C dX8_keep_3 si_447 ik_447 ?_
    refine zq_icmp_ge (tgt := 27) C dX8_keep_6 rfl (fun h6 => ?_) (fun h6 => ?_)
    · have hJ := hJ.1 h6
      refine zq_aload_n (i := 0) C dX8_keep_27 rfl rfl ?_
      refine zq_iconst (x := 1) C dX8_keep_28 rfl ik_1 ?_
      refine zq_putz (kz := 5) C fk_X8_228 (Or.inr rfl) sm0 rfl dX8_keep_29 rfl (fun M1 hM1 => ?_)
      have hJ := hJ M1 hM1
      refine zq_aload_n (i := 0) C dX8_keep_32 rfl rfl ?_
      refine zq_getr C fk_X8_7 sm0 rfl dX8_keep_33 ?_
      refine zq_iconst (x := 0) C dX8_keep_36 rfl ik_0 ?_
      refine zq_iald C sm1 (by decide) (by decide) dX8_keep_37 ?_
      exact zq_iret C rfl ⟨_, rfl, hJ⟩ dX8_keep_38
    · have hJ := hJ.2 h6
      refine zq_aload_n (i := 0) C dX8_keep_9 rfl rfl ?_
      refine zq_getr C fk_X8_19 sm0 rfl dX8_keep_10 ?_
      refine zq_iload_n (i := 1) C dX8_keep_13 rfl rfl ?_
      refine zq_aload_n (i := 0) C dX8_keep_14 rfl rfl ?_
      refine zq_getr C fk_X8_7 sm0 rfl dX8_keep_15 ?_
      refine zq_iload_n (i := 1) C dX8_keep_18 rfl rfl ?_
      obtain ⟨h2, h2', hJ⟩ := hJ
      refine zq_iald C sm1 h2 h2' dX8_keep_19 ?_
      obtain ⟨h3, h3', hJ⟩ := hJ
      refine zq_iast C sm4 h3 h3' dX8_keep_20 (fun M4 hM4 => ?_)
      have hJ := hJ M4 hM4
      obtain ⟨hv1_5, hJ⟩ := hJ
      refine zq_iinc (y := x1 + 1) (lv' := [some (zr 0), some (zi (x1 + 1))]) C dX8_keep_21 rfl rfl hv1_5 rfl ?_
      obtain ⟨v1_5, ev1_5⟩ : ∃ z, z = x1 + 1 := ⟨_, rfl⟩
      rw [← ev1_5]
      have hJ := hJ v1_5 ev1_5
      refine zq_goto (tgt := 2) C dX8_keep_24 rfl ?_
      exact hK2 _ hJ
  refine zq_iconst (x := 0) C dX8_keep_0 rfl ik_0 ?_
  refine zq_istore_n (i := 1) (lv' := [some (zr 0), some (zi 0)]) C dX8_keep_1 rfl (Nat.le_of_ble_eq_true rfl) rfl ?_
  exact hl2 _ hJ
set_option maxRecDepth 100000 in
set_option maxHeartbeats 4000000 in
theorem wM_restore (l : Launch)  (M : zM) {Φ : Int → zM → Prop} (hJ : jM_restore  M Φ) : zMet l yX8_restore cX8_restore 2 (some .int) 2 43 shM [zr 0] M (zI Φ) := by
  refine zq_enter [some (zr 0), none] (by decide) rfl (Nat.le_of_ble_eq_true rfl) rfl (fun X C => ?_)
  unfold jM_restore at hJ
  have hl16 : ∀ (s : Int × zM), zwh (fun K s => jM_restore_L16  K Φ (s.1) (s.2)) s → zG X (s.2) 16 [some (zr 0), some (zi (s.1))] [] := by
    refine zwh_sound ?_
    intro K16 s hK16 hJ
    obtain ⟨x1, M⟩ := s
    have hJ : jM_restore_L16  K16 Φ x1 M := hJ
    show zG X M 16 [some (zr 0), some (zi x1)] []
    unfold jM_restore_L16 at hJ
    refine zq_iload_n (i := 1) C dX8_restore_16 rfl rfl ?_
    refine zq_sipush (x := 447) C dX8_restore_17 si_447 ik_447 ?_
    refine zq_icmp_ge (tgt := 41) C dX8_restore_20 rfl (fun h8 => ?_) (fun h8 => ?_)
    · have hJ := hJ.1 h8
      refine zq_aload_n (i := 0) C dX8_restore_41 rfl rfl ?_
      refine zq_aload_n (i := 0) C dX8_restore_42 rfl rfl ?_
      refine zq_getr C fk_X8_7 sm0 rfl dX8_restore_43 ?_
      refine zq_iconst (x := 0) C dX8_restore_46 rfl ik_0 ?_
      refine zq_iald C sm1 (by decide) (by decide) dX8_restore_47 ?_
      refine zq_callVi C [zi (M 1 0)] (wM_act l _ _  hJ) ck_X8_170 iv_X8_act rfl sm0 rfl rfl rfl rfl rfl rfl dX8_restore_48 (fun r2 M3 hJ => ?_)
      exact zq_iret C rfl ⟨_, rfl, hJ⟩ dX8_restore_51
    · have hJ := hJ.2 h8
      refine zq_aload_n (i := 0) C dX8_restore_23 rfl rfl ?_
      refine zq_getr C fk_X8_7 sm0 rfl dX8_restore_24 ?_
      refine zq_iload_n (i := 1) C dX8_restore_27 rfl rfl ?_
      refine zq_aload_n (i := 0) C dX8_restore_28 rfl rfl ?_
      refine zq_getr C fk_X8_19 sm0 rfl dX8_restore_29 ?_
      refine zq_iload_n (i := 1) C dX8_restore_32 rfl rfl ?_
      obtain ⟨h4, h4', hJ⟩ := hJ
      refine zq_iald C sm4 h4 h4' dX8_restore_33 ?_
      obtain ⟨h5, h5', hJ⟩ := hJ
      refine zq_iast C sm1 h5 h5' dX8_restore_34 (fun M6 hM6 => ?_)
      have hJ := hJ M6 hM6
      obtain ⟨hv1_7, hJ⟩ := hJ
      refine zq_iinc (y := x1 + 1) (lv' := [some (zr 0), some (zi (x1 + 1))]) C dX8_restore_35 rfl rfl hv1_7 rfl ?_
      obtain ⟨v1_7, ev1_7⟩ : ∃ z, z = x1 + 1 := ⟨_, rfl⟩
      rw [← ev1_7]
      have hJ := hJ v1_7 ev1_7
      refine zq_goto (tgt := 16) C dX8_restore_38 rfl ?_
      exact hK16 _ hJ
  refine zq_aload_n (i := 0) C dX8_restore_0 rfl rfl ?_
  refine zq_get (kz := 5) C fk_X8_228 sm0 rfl dX8_restore_1 rfl ?_
  refine zq_if_ne (tgt := 10) C dX8_restore_4 rfl (fun h9 => ?_) (fun h9 => ?_)
  · have hJ := hJ.1 h9
    refine zq_aload_n (i := 0) C dX8_restore_10 rfl rfl ?_
    refine zq_callVv C [] (wM_putAside l _  hJ) ck_X8_163 iv_X8_putAside rfl sm0 rfl rfl rfl rfl rfl rfl dX8_restore_11 (fun M1 hJ => ?_)
    refine zq_iconst (x := 0) C dX8_restore_14 rfl ik_0 ?_
    refine zq_istore_n (i := 1) (lv' := [some (zr 0), some (zi 0)]) C dX8_restore_15 rfl (Nat.le_of_ble_eq_true rfl) rfl ?_
    exact hl16 _ hJ
  · have hJ := hJ.2 h9
    refine zq_bipush (x := (-5)) C dX8_restore_7 bi_m5 ik_m5 ?_
    exact zq_iret C rfl ⟨_, rfl, hJ⟩ dX8_restore_9
set_option maxRecDepth 100000 in
set_option maxHeartbeats 4000000 in
theorem wM_arrowsAt (l : Launch) (a1 a2 : Int) (M : zM) {Φ : Int → Prop} (hJ : jM_arrowsAt a1 a2 M Φ) : zMet l yX8_arrowsAt cX8_arrowsAt 5 (some .int) 1 22 shM [zr 0, zi a1, zi a2] M (zI (fun z M' => M = M' ∧ Φ z)) := by
  refine zq_enter [some (zr 0), some (zi a1), some (zi a2), none, none] (by decide) rfl (Nat.le_of_ble_eq_true rfl) rfl (fun X C => ?_)
  unfold jM_arrowsAt at hJ
  have hl5 : ∀ (s : Int × Int), zwh (fun K s => jM_arrowsAt_L5 a1 a2 K Φ M (s.1) (s.2)) s → zG X M 5 [some (zr 0), some (zi a1), some (zi a2), some (zi (s.1)), some (zi (s.2))] [] := by
    refine zwh_sound ?_
    intro K5 s hK5 hJ
    obtain ⟨x3, x4⟩ := s
    have hJ : jM_arrowsAt_L5 a1 a2 K5 Φ M x3 x4 := hJ
    show zG X M 5 [some (zr 0), some (zi a1), some (zi a2), some (zi x3), some (zi x4)] []
    unfold jM_arrowsAt_L5 at hJ
    refine zq_iload C dX8_arrowsAt_5 rfl ?_
    refine zq_aload_n (i := 0) C dX8_arrowsAt_7 rfl rfl ?_
    refine zq_getr C fk_X8_7 sm0 rfl dX8_arrowsAt_8 ?_
    refine zq_bipush (x := 121) C dX8_arrowsAt_11 bi_121 ik_121 ?_
    refine zq_iald C sm1 (by decide) (by decide) dX8_arrowsAt_13 ?_
    refine zq_icmp_ge (tgt := 54) C dX8_arrowsAt_14 rfl (fun h14 => ?_) (fun h14 => ?_)
    · have hJ := hJ.1 h14
      refine zq_iload_n (i := 3) C dX8_arrowsAt_54 rfl rfl ?_
      exact zq_iret C rfl ⟨_, rfl, rfl, hJ⟩ dX8_arrowsAt_55
    · have hJ := hJ.2 h14
      refine zq_iload_n (i := 3) C dX8_arrowsAt_17 rfl rfl ?_
      refine zq_aload_n (i := 0) C dX8_arrowsAt_18 rfl rfl ?_
      refine zq_getr C fk_X8_7 sm0 rfl dX8_arrowsAt_19 ?_
      refine zq_bipush (x := 122) C dX8_arrowsAt_22 bi_122 ik_122 ?_
      refine zq_iconst (x := 3) C dX8_arrowsAt_24 rfl ik_3 ?_
      refine zq_iload C dX8_arrowsAt_25 rfl ?_
      obtain ⟨h1, hJ⟩ := hJ
      refine zq_imul C dX8_arrowsAt_27 h1 ?_
      obtain ⟨h2, hJ⟩ := hJ
      refine zq_iadd C dX8_arrowsAt_28 h2 ?_
      refine zq_iload_n (i := 2) C dX8_arrowsAt_29 rfl rfl ?_
      obtain ⟨h3, hJ⟩ := hJ
      refine zq_iadd C dX8_arrowsAt_30 h3 ?_
      obtain ⟨h4, h4', hJ⟩ := hJ
      refine zq_iald C sm1 h4 h4' dX8_arrowsAt_31 ?_
      refine zq_aload_n (i := 0) C dX8_arrowsAt_32 rfl rfl ?_
      refine zq_iload_n (i := 1) C dX8_arrowsAt_33 rfl rfl ?_
      refine zq_iconst (x := 0) C dX8_arrowsAt_34 rfl ik_0 ?_
      refine zq_callVi C [zi a1, zi 0] (wM_of l _ _ _  hJ) ck_X8_48 iv_X8_of rfl sm0 rfl rfl rfl rfl rfl rfl dX8_arrowsAt_35 (fun r5 N6 hN6 => ?_)
      obtain ⟨rfl, hJ⟩ := hN6
      refine zq_icmp_ne (tgt := 45) C dX8_arrowsAt_38 rfl (fun h13 => ?_) (fun h13 => ?_)
      · have hJ := hJ.1 h13
        refine zq_iconst (x := 0) C dX8_arrowsAt_45 rfl ik_0 ?_
        obtain ⟨h7, hJ⟩ := hJ
        refine zq_iadd C dX8_arrowsAt_46 h7 ?_
        refine zq_istoreN_n (i := 3) C (fun v => [some (zr 0), some (zi a1), some (zi a2), some (zi v), some (zi x4)]) dX8_arrowsAt_47 rfl (Nat.le_of_ble_eq_true rfl) (fun _ => rfl) (fun v3_8 hv3_8 => ?_)
        have hJ := hJ v3_8 hv3_8
        obtain ⟨hv4_9, hJ⟩ := hJ
        refine zq_iinc (y := x4 + 1) (lv' := [some (zr 0), some (zi a1), some (zi a2), some (zi v3_8), some (zi (x4 + 1))]) C dX8_arrowsAt_48 rfl rfl hv4_9 rfl ?_
        obtain ⟨v4_9, ev4_9⟩ : ∃ z, z = x4 + 1 := ⟨_, rfl⟩
        rw [← ev4_9]
        have hJ := hJ v4_9 ev4_9
        refine zq_goto (tgt := 5) C dX8_arrowsAt_51 rfl ?_
        exact hK5 _ hJ
      · have hJ := hJ.2 h13
        refine zq_iconst (x := 1) C dX8_arrowsAt_41 rfl ik_1 ?_
        refine zq_goto (tgt := 46) C dX8_arrowsAt_42 rfl ?_
        obtain ⟨h10, hJ⟩ := hJ
        refine zq_iadd C dX8_arrowsAt_46 h10 ?_
        refine zq_istoreN_n (i := 3) C (fun v => [some (zr 0), some (zi a1), some (zi a2), some (zi v), some (zi x4)]) dX8_arrowsAt_47 rfl (Nat.le_of_ble_eq_true rfl) (fun _ => rfl) (fun v3_11 hv3_11 => ?_)
        have hJ := hJ v3_11 hv3_11
        obtain ⟨hv4_12, hJ⟩ := hJ
        refine zq_iinc (y := x4 + 1) (lv' := [some (zr 0), some (zi a1), some (zi a2), some (zi v3_11), some (zi (x4 + 1))]) C dX8_arrowsAt_48 rfl rfl hv4_12 rfl ?_
        obtain ⟨v4_12, ev4_12⟩ : ∃ z, z = x4 + 1 := ⟨_, rfl⟩
        rw [← ev4_12]
        have hJ := hJ v4_12 ev4_12
        refine zq_goto (tgt := 5) C dX8_arrowsAt_51 rfl ?_
        exact hK5 _ hJ
  refine zq_iconst (x := 0) C dX8_arrowsAt_0 rfl ik_0 ?_
  refine zq_istore_n (i := 3) (lv' := [some (zr 0), some (zi a1), some (zi a2), some (zi 0), none]) C dX8_arrowsAt_1 rfl (Nat.le_of_ble_eq_true rfl) rfl ?_
  refine zq_iconst (x := 0) C dX8_arrowsAt_2 rfl ik_0 ?_
  refine zq_istore (lv' := [some (zr 0), some (zi a1), some (zi a2), some (zi 0), some (zi 0)]) C dX8_arrowsAt_3 (Nat.le_of_ble_eq_true rfl) rfl ?_
  exact hl5 _ hJ
set_option maxRecDepth 100000 in
set_option maxHeartbeats 4000000 in
theorem wM_behind (l : Launch) (a1 : Int) (M : zM) {Φ : Int → Prop} (hJ : jM_behind a1 M Φ) : zMet l yX8_behind cX8_behind 5 (some .int) 1 22 shM [zr 0, zi a1] M (zI (fun z M' => M = M' ∧ Φ z)) := by
  refine zq_enter [some (zr 0), some (zi a1), none, none, none] (by decide) rfl (Nat.le_of_ble_eq_true rfl) rfl (fun X C => ?_)
  unfold jM_behind at hJ
  have hl5 : ∀ (s : Int × Int), zwh (fun K s => jM_behind_L5 a1 K Φ M (s.1) (s.2)) s → zG X M 5 [some (zr 0), some (zi a1), some (zi (s.1)), some (zi (s.2)), none] [] := by
    refine zwh_sound ?_
    intro K5 s hK5 hJ
    obtain ⟨x2, x3⟩ := s
    have hJ : jM_behind_L5 a1 K5 Φ M x2 x3 := hJ
    show zG X M 5 [some (zr 0), some (zi a1), some (zi x2), some (zi x3), none] []
    unfold jM_behind_L5 at hJ
    have hj78 : ∀ (x3 : Int), jM_behind_J78 a1 K5 Φ x3 M → zG X M 78 [some (zr 0), some (zi a1), none, some (zi x3), none] [] := by
      intro x3 hJ
      unfold jM_behind_J78 at hJ
      refine zq_iload_n (i := 3) C dX8_behind_78 rfl rfl ?_
      refine zq_goto (tgt := 83) C dX8_behind_79 rfl ?_
      refine zq_istore_n (i := 2) (lv' := [some (zr 0), some (zi a1), some (zi x3), some (zi x3), none]) C dX8_behind_83 rfl (Nat.le_of_ble_eq_true rfl) rfl ?_
      obtain ⟨hv3_9, hJ⟩ := hJ
      refine zq_iinc (y := x3 + 1) (lv' := [some (zr 0), some (zi a1), some (zi x3), some (zi (x3 + 1)), none]) C dX8_behind_84 rfl rfl hv3_9 rfl ?_
      obtain ⟨v3_9, ev3_9⟩ : ∃ z, z = x3 + 1 := ⟨_, rfl⟩
      rw [← ev3_9]
      have hJ := hJ v3_9 ev3_9
      refine zq_goto (tgt := 5) C dX8_behind_87 rfl ?_
      exact hK5 _ hJ
    have hj50 : ∀ (x2 x3 s0 : Int), jM_behind_J50 a1 K5 Φ x2 x3 s0 M → zG X M 50 [some (zr 0), some (zi a1), some (zi x2), some (zi x3), none] [zi s0] := by
      intro x2 x3 s0 hJ
      unfold jM_behind_J50 at hJ
      refine zq_istore (lv' := [some (zr 0), some (zi a1), some (zi x2), some (zi x3), some (zi s0)]) C dX8_behind_50 (Nat.le_of_ble_eq_true rfl) rfl ?_
      refine zq_iload C dX8_behind_52 rfl ?_
      refine zq_if_eq (tgt := 82) C dX8_behind_54 rfl (fun h17 => ?_) (fun h17 => ?_)
      · have hJ := hJ.1 h17
        refine zq_iload_n (i := 2) C dX8_behind_82 rfl rfl ?_
        refine zq_istore_n (i := 2) (lv' := [some (zr 0), some (zi a1), some (zi x2), some (zi x3), some (zi s0)]) C dX8_behind_83 rfl (Nat.le_of_ble_eq_true rfl) rfl ?_
        obtain ⟨hv3_8, hJ⟩ := hJ
        refine zq_iinc (y := x3 + 1) (lv' := [some (zr 0), some (zi a1), some (zi x2), some (zi (x3 + 1)), some (zi s0)]) C dX8_behind_84 rfl rfl hv3_8 rfl ?_
        obtain ⟨v3_8, ev3_8⟩ : ∃ z, z = x3 + 1 := ⟨_, rfl⟩
        rw [← ev3_8]
        have hJ := hJ v3_8 ev3_8
        refine zq_goto (tgt := 5) C dX8_behind_87 rfl ?_
        refine zq_weak [some (zr 0), some (zi a1), some (zi x2), some (zi v3_8), none] ⟨Or.inr rfl, Or.inr rfl, Or.inr rfl, Or.inr rfl, Or.inl rfl, trivial⟩ ?_
        exact hK5 _ hJ
      · have hJ := hJ.2 h17
        refine zq_iload_n (i := 2) C dX8_behind_57 rfl rfl ?_
        refine zq_bipush (x := (-5)) C dX8_behind_58 bi_m5 ik_m5 ?_
        refine zq_icmp_eq (tgt := 78) C dX8_behind_60 rfl (fun h16 => ?_) (fun h16 => ?_)
        · have hJ := hJ.1 h16
          refine zq_weak [some (zr 0), some (zi a1), none, some (zi x3), none] ⟨Or.inr rfl, Or.inr rfl, Or.inl rfl, Or.inr rfl, Or.inl rfl, trivial⟩ ?_
          exact hj78 _ hJ
        · have hJ := hJ.2 h16
          refine zq_aload_n (i := 0) C dX8_behind_63 rfl rfl ?_
          refine zq_iload_n (i := 3) C dX8_behind_64 rfl rfl ?_
          refine zq_iconst (x := 2) C dX8_behind_65 rfl ik_2 ?_
          refine zq_callVi C [zi x3, zi 2] (wM_of l _ _ _  hJ) ck_X8_48 iv_X8_of rfl sm0 rfl rfl rfl rfl rfl rfl dX8_behind_66 (fun r10 N11 hN11 => ?_)
          obtain ⟨rfl, hJ⟩ := hN11
          refine zq_aload_n (i := 0) C dX8_behind_69 rfl rfl ?_
          refine zq_iload_n (i := 2) C dX8_behind_70 rfl rfl ?_
          refine zq_iconst (x := 2) C dX8_behind_71 rfl ik_2 ?_
          refine zq_callVi C [zi x2, zi 2] (wM_of l _ _ _  hJ) ck_X8_48 iv_X8_of rfl sm0 rfl rfl rfl rfl rfl rfl dX8_behind_72 (fun r12 N13 hN13 => ?_)
          obtain ⟨rfl, hJ⟩ := hN13
          refine zq_icmp_ge (tgt := 82) C dX8_behind_75 rfl (fun h15 => ?_) (fun h15 => ?_)
          · have hJ := hJ.1 h15
            refine zq_iload_n (i := 2) C dX8_behind_82 rfl rfl ?_
            refine zq_istore_n (i := 2) (lv' := [some (zr 0), some (zi a1), some (zi x2), some (zi x3), some (zi s0)]) C dX8_behind_83 rfl (Nat.le_of_ble_eq_true rfl) rfl ?_
            obtain ⟨hv3_14, hJ⟩ := hJ
            refine zq_iinc (y := x3 + 1) (lv' := [some (zr 0), some (zi a1), some (zi x2), some (zi (x3 + 1)), some (zi s0)]) C dX8_behind_84 rfl rfl hv3_14 rfl ?_
            obtain ⟨v3_14, ev3_14⟩ : ∃ z, z = x3 + 1 := ⟨_, rfl⟩
            rw [← ev3_14]
            have hJ := hJ v3_14 ev3_14
            refine zq_goto (tgt := 5) C dX8_behind_87 rfl ?_
            refine zq_weak [some (zr 0), some (zi a1), some (zi x2), some (zi v3_14), none] ⟨Or.inr rfl, Or.inr rfl, Or.inr rfl, Or.inr rfl, Or.inl rfl, trivial⟩ ?_
            exact hK5 _ hJ
          · have hJ := hJ.2 h15
            refine zq_weak [some (zr 0), some (zi a1), none, some (zi x3), none] ⟨Or.inr rfl, Or.inr rfl, Or.inl rfl, Or.inr rfl, Or.inl rfl, trivial⟩ ?_
            exact hj78 _ hJ
    have hj49 : ∀ (x2 x3 : Int), jM_behind_J49 a1 K5 Φ x2 x3 M → zG X M 49 [some (zr 0), some (zi a1), some (zi x2), some (zi x3), none] [] := by
      intro x2 x3 hJ
      unfold jM_behind_J49 at hJ
      refine zq_iconst (x := 0) C dX8_behind_49 rfl ik_0 ?_
      exact hj50 _ _ _ hJ
    refine zq_iload_n (i := 3) C dX8_behind_5 rfl rfl ?_
    refine zq_aload_n (i := 0) C dX8_behind_6 rfl rfl ?_
    refine zq_getr C fk_X8_7 sm0 rfl dX8_behind_7 ?_
    refine zq_iconst (x := 0) C dX8_behind_10 rfl ik_0 ?_
    refine zq_iald C sm1 (by decide) (by decide) dX8_behind_11 ?_
    refine zq_icmp_ge (tgt := 90) C dX8_behind_12 rfl (fun h24 => ?_) (fun h24 => ?_)
    · have hJ := hJ.1 h24
      refine zq_iload_n (i := 2) C dX8_behind_90 rfl rfl ?_
      refine zq_bipush (x := (-5)) C dX8_behind_91 bi_m5 ik_m5 ?_
      refine zq_icmp_ne (tgt := 101) C dX8_behind_93 rfl (fun h3 => ?_) (fun h3 => ?_)
      · have hJ := hJ.1 h3
        refine zq_aload_n (i := 0) C dX8_behind_101 rfl rfl ?_
        refine zq_iload_n (i := 2) C dX8_behind_102 rfl rfl ?_
        refine zq_iconst (x := 0) C dX8_behind_103 rfl ik_0 ?_
        refine zq_callVi C [zi x2, zi 0] (wM_of l _ _ _  hJ) ck_X8_48 iv_X8_of rfl sm0 rfl rfl rfl rfl rfl rfl dX8_behind_104 (fun r1 N2 hN2 => ?_)
        obtain ⟨rfl, hJ⟩ := hN2
        exact zq_iret C rfl ⟨_, rfl, rfl, hJ⟩ dX8_behind_107
      · have hJ := hJ.2 h3
        refine zq_bipush (x := (-5)) C dX8_behind_96 bi_m5 ik_m5 ?_
        refine zq_goto (tgt := 107) C dX8_behind_98 rfl ?_
        exact zq_iret C rfl ⟨_, rfl, rfl, hJ⟩ dX8_behind_107
    · have hJ := hJ.2 h24
      refine zq_aload_n (i := 0) C dX8_behind_15 rfl rfl ?_
      refine zq_iload_n (i := 3) C dX8_behind_16 rfl rfl ?_
      refine zq_iconst (x := 1) C dX8_behind_17 rfl ik_1 ?_
      refine zq_callVi C [zi x3, zi 1] (wM_of l _ _ _  hJ) ck_X8_48 iv_X8_of rfl sm0 rfl rfl rfl rfl rfl rfl dX8_behind_18 (fun r4 N5 hN5 => ?_)
      obtain ⟨rfl, hJ⟩ := hN5
      refine zq_aload_n (i := 0) C dX8_behind_21 rfl rfl ?_
      refine zq_iload_n (i := 1) C dX8_behind_22 rfl rfl ?_
      refine zq_iconst (x := 1) C dX8_behind_23 rfl ik_1 ?_
      refine zq_callVi C [zi a1, zi 1] (wM_of l _ _ _  hJ) ck_X8_48 iv_X8_of rfl sm0 rfl rfl rfl rfl rfl rfl dX8_behind_24 (fun r6 N7 hN7 => ?_)
      obtain ⟨rfl, hJ⟩ := hN7
      refine zq_icmp_ne (tgt := 49) C dX8_behind_27 rfl (fun h23 => ?_) (fun h23 => ?_)
      · have hJ := hJ.1 h23
        exact hj49 _ _ hJ
      · have hJ := hJ.2 h23
        refine zq_aload_n (i := 0) C dX8_behind_30 rfl rfl ?_
        refine zq_iload_n (i := 3) C dX8_behind_31 rfl rfl ?_
        refine zq_iconst (x := 2) C dX8_behind_32 rfl ik_2 ?_
        refine zq_callVi C [zi x3, zi 2] (wM_of l _ _ _  hJ) ck_X8_48 iv_X8_of rfl sm0 rfl rfl rfl rfl rfl rfl dX8_behind_33 (fun r18 N19 hN19 => ?_)
        obtain ⟨rfl, hJ⟩ := hN19
        refine zq_aload_n (i := 0) C dX8_behind_36 rfl rfl ?_
        refine zq_iload_n (i := 1) C dX8_behind_37 rfl rfl ?_
        refine zq_iconst (x := 2) C dX8_behind_38 rfl ik_2 ?_
        refine zq_callVi C [zi a1, zi 2] (wM_of l _ _ _  hJ) ck_X8_48 iv_X8_of rfl sm0 rfl rfl rfl rfl rfl rfl dX8_behind_39 (fun r20 N21 hN21 => ?_)
        obtain ⟨rfl, hJ⟩ := hN21
        refine zq_icmp_le (tgt := 49) C dX8_behind_42 rfl (fun h22 => ?_) (fun h22 => ?_)
        · have hJ := hJ.1 h22
          exact hj49 _ _ hJ
        · have hJ := hJ.2 h22
          refine zq_iconst (x := 1) C dX8_behind_45 rfl ik_1 ?_
          refine zq_goto (tgt := 50) C dX8_behind_46 rfl ?_
          exact hj50 _ _ _ hJ
  refine zq_bipush (x := (-5)) C dX8_behind_0 bi_m5 ik_m5 ?_
  refine zq_istore_n (i := 2) (lv' := [some (zr 0), some (zi a1), some (zi (-5)), none, none]) C dX8_behind_2 rfl (Nat.le_of_ble_eq_true rfl) rfl ?_
  refine zq_iconst (x := 0) C dX8_behind_3 rfl ik_0 ?_
  refine zq_istore_n (i := 3) (lv' := [some (zr 0), some (zi a1), some (zi (-5)), some (zi 0), none]) C dX8_behind_4 rfl (Nat.le_of_ble_eq_true rfl) rfl ?_
  exact hl5 _ hJ
set_option maxRecDepth 100000 in
set_option maxHeartbeats 4000000 in
theorem wM_barOf (l : Launch) (a1 a2 : Int) (M : zM) {Φ : Int → zM → Prop} (hJ : jM_barOf a1 a2 M Φ) : zMet l yX8_barOf cX8_barOf 4 (some .int) 7 157 shM [zr 0, zi a1, zi a2] M (zI Φ) := by
  refine zq_enter [some (zr 0), some (zi a1), some (zi a2), none] (by decide) rfl (Nat.le_of_ble_eq_true rfl) rfl (fun X C => ?_)
  unfold jM_barOf at hJ
  refine zq_aload_n (i := 0) C dX8_barOf_0 rfl rfl ?_
  refine zq_iload_n (i := 1) C dX8_barOf_1 rfl rfl ?_
  refine zq_callVi C [zi a1] (wM_find l _ _  hJ) ck_X8_52 iv_X8_find rfl sm0 rfl rfl rfl rfl rfl rfl dX8_barOf_2 (fun r1 N2 hN2 => ?_)
  obtain ⟨rfl, hJ⟩ := hN2
  refine zq_istore_n (i := 3) (lv' := [some (zr 0), some (zi a1), some (zi a2), some (zi r1)]) C dX8_barOf_5 rfl (Nat.le_of_ble_eq_true rfl) rfl ?_
  refine zq_iload_n (i := 3) C dX8_barOf_6 rfl rfl ?_
  refine zq_bipush (x := (-5)) C dX8_barOf_7 bi_m5 ik_m5 ?_
  refine zq_icmp_ne (tgt := 14) C dX8_barOf_9 rfl (fun h49 => ?_) (fun h49 => ?_)
  · have hJ := hJ.1 h49
    refine zq_iload_n (i := 2) C dX8_barOf_14 rfl rfl ?_
    by_cases g0 : a2 = 0
    · have hJ := hJ.1 g0
      refine zq_tabIn (tgt := 76) C dX8_barOf_15 (by rw [g0]; decide) (by rw [g0]; decide) (by rw [g0]; rfl) rfl ?_
      refine zq_aload_n (i := 0) C dX8_barOf_76 rfl rfl ?_
      refine zq_iload_n (i := 3) C dX8_barOf_77 rfl rfl ?_
      refine zq_iconst (x := 1) C dX8_barOf_78 rfl ik_1 ?_
      refine zq_iload_n (i := 2) C dX8_barOf_79 rfl rfl ?_
      obtain ⟨h3, hJ⟩ := hJ
      refine zq_iadd C dX8_barOf_80 h3 ?_
      refine zq_callVi C [zi r1, zi (1 + a2)] (wM_of l _ _ _  hJ) ck_X8_48 iv_X8_of rfl sm0 rfl rfl rfl rfl rfl rfl dX8_barOf_81 (fun r4 N5 hN5 => ?_)
      obtain ⟨rfl, hJ⟩ := hN5
      exact zq_iret C rfl ⟨_, rfl, hJ⟩ dX8_barOf_84
    have hJ := hJ.2 g0
    by_cases g1 : a2 = 1
    · have hJ := hJ.1 g1
      refine zq_tabIn (tgt := 76) C dX8_barOf_15 (by rw [g1]; decide) (by rw [g1]; decide) (by rw [g1]; rfl) rfl ?_
      refine zq_aload_n (i := 0) C dX8_barOf_76 rfl rfl ?_
      refine zq_iload_n (i := 3) C dX8_barOf_77 rfl rfl ?_
      refine zq_iconst (x := 1) C dX8_barOf_78 rfl ik_1 ?_
      refine zq_iload_n (i := 2) C dX8_barOf_79 rfl rfl ?_
      obtain ⟨h6, hJ⟩ := hJ
      refine zq_iadd C dX8_barOf_80 h6 ?_
      refine zq_callVi C [zi r1, zi (1 + a2)] (wM_of l _ _ _  hJ) ck_X8_48 iv_X8_of rfl sm0 rfl rfl rfl rfl rfl rfl dX8_barOf_81 (fun r7 N8 hN8 => ?_)
      obtain ⟨rfl, hJ⟩ := hN8
      exact zq_iret C rfl ⟨_, rfl, hJ⟩ dX8_barOf_84
    have hJ := hJ.2 g1
    by_cases g2 : a2 = 2
    · have hJ := hJ.1 g2
      refine zq_tabIn (tgt := 76) C dX8_barOf_15 (by rw [g2]; decide) (by rw [g2]; decide) (by rw [g2]; rfl) rfl ?_
      refine zq_aload_n (i := 0) C dX8_barOf_76 rfl rfl ?_
      refine zq_iload_n (i := 3) C dX8_barOf_77 rfl rfl ?_
      refine zq_iconst (x := 1) C dX8_barOf_78 rfl ik_1 ?_
      refine zq_iload_n (i := 2) C dX8_barOf_79 rfl rfl ?_
      obtain ⟨h9, hJ⟩ := hJ
      refine zq_iadd C dX8_barOf_80 h9 ?_
      refine zq_callVi C [zi r1, zi (1 + a2)] (wM_of l _ _ _  hJ) ck_X8_48 iv_X8_of rfl sm0 rfl rfl rfl rfl rfl rfl dX8_barOf_81 (fun r10 N11 hN11 => ?_)
      obtain ⟨rfl, hJ⟩ := hN11
      exact zq_iret C rfl ⟨_, rfl, hJ⟩ dX8_barOf_84
    have hJ := hJ.2 g2
    by_cases g3 : a2 = 3
    · have hJ := hJ.1 g3
      refine zq_tabIn (tgt := 85) C dX8_barOf_15 (by rw [g3]; decide) (by rw [g3]; decide) (by rw [g3]; rfl) rfl ?_
      refine zq_aload_n (i := 0) C dX8_barOf_85 rfl rfl ?_
      refine zq_iload_n (i := 3) C dX8_barOf_86 rfl rfl ?_
      refine zq_callVi C [zi r1] (wM_end l _ _  hJ) ck_X8_56 iv_X8_end rfl sm0 rfl rfl rfl rfl rfl rfl dX8_barOf_87 (fun r12 N13 hN13 => ?_)
      obtain ⟨rfl, hJ⟩ := hN13
      exact zq_iret C rfl ⟨_, rfl, hJ⟩ dX8_barOf_90
    have hJ := hJ.2 g3
    by_cases g4 : a2 = 4
    · have hJ := hJ.1 g4
      refine zq_tabIn (tgt := 91) C dX8_barOf_15 (by rw [g4]; decide) (by rw [g4]; decide) (by rw [g4]; rfl) rfl ?_
      refine zq_aload_n (i := 0) C dX8_barOf_91 rfl rfl ?_
      refine zq_iconst (x := 0) C dX8_barOf_92 rfl ik_0 ?_
      refine zq_aload_n (i := 0) C dX8_barOf_93 rfl rfl ?_
      refine zq_iload_n (i := 3) C dX8_barOf_94 rfl rfl ?_
      refine zq_iconst (x := 2) C dX8_barOf_95 rfl ik_2 ?_
      refine zq_callVi C [zi r1, zi 2] (wM_of l _ _ _  hJ) ck_X8_48 iv_X8_of rfl sm0 rfl rfl rfl rfl rfl rfl dX8_barOf_96 (fun r14 N15 hN15 => ?_)
      obtain ⟨rfl, hJ⟩ := hN15
      refine zq_callVi C [zi 0, zi r14] (wM_widthOf l _ _ _  hJ) ck_X8_115 iv_X8_widthOf rfl sm0 rfl rfl rfl rfl rfl rfl dX8_barOf_99 (fun r16 N17 hN17 => ?_)
      obtain ⟨rfl, hJ⟩ := hN17
      exact zq_iret C rfl ⟨_, rfl, hJ⟩ dX8_barOf_102
    have hJ := hJ.2 g4
    by_cases g5 : a2 = 5
    · have hJ := hJ.1 g5
      refine zq_tabIn (tgt := 103) C dX8_barOf_15 (by rw [g5]; decide) (by rw [g5]; decide) (by rw [g5]; rfl) rfl ?_
      refine zq_aload_n (i := 0) C dX8_barOf_103 rfl rfl ?_
      refine zq_aload_n (i := 0) C dX8_barOf_104 rfl rfl ?_
      refine zq_iload_n (i := 3) C dX8_barOf_105 rfl rfl ?_
      refine zq_iconst (x := 2) C dX8_barOf_106 rfl ik_2 ?_
      refine zq_callVi C [zi r1, zi 2] (wM_of l _ _ _  hJ) ck_X8_48 iv_X8_of rfl sm0 rfl rfl rfl rfl rfl rfl dX8_barOf_107 (fun r18 N19 hN19 => ?_)
      obtain ⟨rfl, hJ⟩ := hN19
      refine zq_aload_n (i := 0) C dX8_barOf_110 rfl rfl ?_
      refine zq_iload_n (i := 3) C dX8_barOf_111 rfl rfl ?_
      refine zq_callVi C [zi r1] (wM_end l _ _  hJ) ck_X8_56 iv_X8_end rfl sm0 rfl rfl rfl rfl rfl rfl dX8_barOf_112 (fun r20 N21 hN21 => ?_)
      obtain ⟨rfl, hJ⟩ := hN21
      refine zq_callVi C [zi r18, zi r20] (wM_widthOf l _ _ _  hJ) ck_X8_115 iv_X8_widthOf rfl sm0 rfl rfl rfl rfl rfl rfl dX8_barOf_115 (fun r22 N23 hN23 => ?_)
      obtain ⟨rfl, hJ⟩ := hN23
      exact zq_iret C rfl ⟨_, rfl, hJ⟩ dX8_barOf_118
    have hJ := hJ.2 g5
    by_cases g6 : a2 = 6
    · have hJ := hJ.1 g6
      refine zq_tabIn (tgt := 119) C dX8_barOf_15 (by rw [g6]; decide) (by rw [g6]; decide) (by rw [g6]; rfl) rfl ?_
      refine zq_aload_n (i := 0) C dX8_barOf_119 rfl rfl ?_
      refine zq_iload_n (i := 3) C dX8_barOf_120 rfl rfl ?_
      refine zq_callVi C [zi r1] (wM_slack l _ _  hJ) ck_X8_231 iv_X8_slack rfl sm0 rfl rfl rfl rfl rfl rfl dX8_barOf_121 (fun r24 M25 hJ => ?_)
      exact zq_iret C rfl ⟨_, rfl, hJ⟩ dX8_barOf_124
    have hJ := hJ.2 g6
    by_cases g7 : a2 = 7
    · have hJ := hJ.1 g7
      refine zq_tabIn (tgt := 125) C dX8_barOf_15 (by rw [g7]; decide) (by rw [g7]; decide) (by rw [g7]; rfl) rfl ?_
      refine zq_aload_n (i := 0) C dX8_barOf_125 rfl rfl ?_
      refine zq_iload_n (i := 3) C dX8_barOf_126 rfl rfl ?_
      refine zq_iload_n (i := 2) C dX8_barOf_127 rfl rfl ?_
      refine zq_bipush (x := 6) C dX8_barOf_128 bi_6 ik_6 ?_
      obtain ⟨h26, hJ⟩ := hJ
      refine zq_isub C dX8_barOf_130 h26 ?_
      refine zq_callVi C [zi r1, zi (a2 - 6)] (wM_arrowsAt l _ _ _  hJ) ck_X8_234 iv_X8_arrowsAt rfl sm0 rfl rfl rfl rfl rfl rfl dX8_barOf_131 (fun r27 N28 hN28 => ?_)
      obtain ⟨rfl, hJ⟩ := hN28
      exact zq_iret C rfl ⟨_, rfl, hJ⟩ dX8_barOf_134
    have hJ := hJ.2 g7
    by_cases g8 : a2 = 8
    · have hJ := hJ.1 g8
      refine zq_tabIn (tgt := 125) C dX8_barOf_15 (by rw [g8]; decide) (by rw [g8]; decide) (by rw [g8]; rfl) rfl ?_
      refine zq_aload_n (i := 0) C dX8_barOf_125 rfl rfl ?_
      refine zq_iload_n (i := 3) C dX8_barOf_126 rfl rfl ?_
      refine zq_iload_n (i := 2) C dX8_barOf_127 rfl rfl ?_
      refine zq_bipush (x := 6) C dX8_barOf_128 bi_6 ik_6 ?_
      obtain ⟨h29, hJ⟩ := hJ
      refine zq_isub C dX8_barOf_130 h29 ?_
      refine zq_callVi C [zi r1, zi (a2 - 6)] (wM_arrowsAt l _ _ _  hJ) ck_X8_234 iv_X8_arrowsAt rfl sm0 rfl rfl rfl rfl rfl rfl dX8_barOf_131 (fun r30 N31 hN31 => ?_)
      obtain ⟨rfl, hJ⟩ := hN31
      exact zq_iret C rfl ⟨_, rfl, hJ⟩ dX8_barOf_134
    have hJ := hJ.2 g8
    by_cases g9 : a2 = 9
    · have hJ := hJ.1 g9
      refine zq_tabIn (tgt := 135) C dX8_barOf_15 (by rw [g9]; decide) (by rw [g9]; decide) (by rw [g9]; rfl) rfl ?_
      refine zq_aload_n (i := 0) C dX8_barOf_135 rfl rfl ?_
      refine zq_aload_n (i := 0) C dX8_barOf_136 rfl rfl ?_
      refine zq_iload_n (i := 3) C dX8_barOf_137 rfl rfl ?_
      refine zq_iconst (x := 2) C dX8_barOf_138 rfl ik_2 ?_
      refine zq_callVi C [zi r1, zi 2] (wM_of l _ _ _  hJ) ck_X8_48 iv_X8_of rfl sm0 rfl rfl rfl rfl rfl rfl dX8_barOf_139 (fun r32 N33 hN33 => ?_)
      obtain ⟨rfl, hJ⟩ := hN33
      refine zq_callVi C [zi r32] (wM_stripOf l _ _  hJ) ck_X8_121 iv_X8_stripOf rfl sm0 rfl rfl rfl rfl rfl rfl dX8_barOf_142 (fun r34 N35 hN35 => ?_)
      obtain ⟨rfl, hJ⟩ := hN35
      exact zq_iret C rfl ⟨_, rfl, hJ⟩ dX8_barOf_145
    have hJ := hJ.2 g9
    by_cases g10 : a2 = 10
    · have hJ := hJ.1 g10
      refine zq_tabIn (tgt := 146) C dX8_barOf_15 (by rw [g10]; decide) (by rw [g10]; decide) (by rw [g10]; rfl) rfl ?_
      refine zq_aload_n (i := 0) C dX8_barOf_146 rfl rfl ?_
      refine zq_aload_n (i := 0) C dX8_barOf_147 rfl rfl ?_
      refine zq_iload_n (i := 3) C dX8_barOf_148 rfl rfl ?_
      refine zq_callVi C [zi r1] (wM_end l _ _  hJ) ck_X8_56 iv_X8_end rfl sm0 rfl rfl rfl rfl rfl rfl dX8_barOf_149 (fun r36 N37 hN37 => ?_)
      obtain ⟨rfl, hJ⟩ := hN37
      refine zq_iconst (x := 1) C dX8_barOf_152 rfl ik_1 ?_
      obtain ⟨h38, hJ⟩ := hJ
      refine zq_isub C dX8_barOf_153 h38 ?_
      refine zq_callVi C [zi (r36 - 1)] (wM_stripOf l _ _  hJ) ck_X8_121 iv_X8_stripOf rfl sm0 rfl rfl rfl rfl rfl rfl dX8_barOf_154 (fun r39 N40 hN40 => ?_)
      obtain ⟨rfl, hJ⟩ := hN40
      refine zq_aload_n (i := 0) C dX8_barOf_157 rfl rfl ?_
      refine zq_aload_n (i := 0) C dX8_barOf_158 rfl rfl ?_
      refine zq_iload_n (i := 3) C dX8_barOf_159 rfl rfl ?_
      refine zq_iconst (x := 2) C dX8_barOf_160 rfl ik_2 ?_
      refine zq_callVi C [zi r1, zi 2] (wM_of l _ _ _  hJ) ck_X8_48 iv_X8_of rfl sm0 rfl rfl rfl rfl rfl rfl dX8_barOf_161 (fun r41 N42 hN42 => ?_)
      obtain ⟨rfl, hJ⟩ := hN42
      refine zq_callVi C [zi r41] (wM_stripOf l _ _  hJ) ck_X8_121 iv_X8_stripOf rfl sm0 rfl rfl rfl rfl rfl rfl dX8_barOf_164 (fun r43 N44 hN44 => ?_)
      obtain ⟨rfl, hJ⟩ := hN44
      obtain ⟨h45, hJ⟩ := hJ
      refine zq_isub C dX8_barOf_167 h45 ?_
      refine zq_iconst (x := 1) C dX8_barOf_168 rfl ik_1 ?_
      obtain ⟨h46, hJ⟩ := hJ
      refine zq_iadd C dX8_barOf_169 h46 ?_
      exact zq_iret C rfl ⟨_, rfl, hJ⟩ dX8_barOf_170
    have hJ := hJ.2 g10
    by_cases g11 : a2 = 11
    · have hJ := hJ.1 g11
      refine zq_tabIn (tgt := 171) C dX8_barOf_15 (by rw [g11]; decide) (by rw [g11]; decide) (by rw [g11]; rfl) rfl ?_
      refine zq_aload_n (i := 0) C dX8_barOf_171 rfl rfl ?_
      refine zq_iload_n (i := 3) C dX8_barOf_172 rfl rfl ?_
      refine zq_callVi C [zi r1] (wM_behind l _ _  hJ) ck_X8_237 iv_X8_behind rfl sm0 rfl rfl rfl rfl rfl rfl dX8_barOf_173 (fun r47 N48 hN48 => ?_)
      obtain ⟨rfl, hJ⟩ := hN48
      exact zq_iret C rfl ⟨_, rfl, hJ⟩ dX8_barOf_176
    have hJ := hJ.2 g11
    refine zq_tabOut (tgt := 177) C dX8_barOf_15 (zto12 g0 g1 g2 g3 g4 g5 g6 g7 g8 g9 g10 g11) rfl ?_
    refine zq_bipush (x := (-2)) C dX8_barOf_177 bi_m2 ik_m2 ?_
    exact zq_iret C rfl ⟨_, rfl, hJ⟩ dX8_barOf_179
  · have hJ := hJ.2 h49
    refine zq_iconst (x := (-1)) C dX8_barOf_12 rfl ik_m1 ?_
    exact zq_iret C rfl ⟨_, rfl, hJ⟩ dX8_barOf_13
set_option maxRecDepth 100000 in
set_option maxHeartbeats 4000000 in
theorem wM_arrowOf (l : Launch) (a1 a2 : Int) (M : zM) {Φ : Int → zM → Prop} (hJ : jM_arrowOf a1 a2 M Φ) : zMet l yX8_arrowOf cX8_arrowOf 7 (some .int) 7 162 shM [zr 0, zi a1, zi a2] M (zI Φ) := by
  refine zq_enter [some (zr 0), some (zi a1), some (zi a2), none, none, none, none] (by decide) rfl (Nat.le_of_ble_eq_true rfl) rfl (fun X C => ?_)
  unfold jM_arrowOf at hJ
  refine zq_aload_n (i := 0) C dX8_arrowOf_0 rfl rfl ?_
  refine zq_iload_n (i := 1) C dX8_arrowOf_1 rfl rfl ?_
  refine zq_callVi C [zi a1] (wM_findArrow l _ _  hJ) ck_X8_144 iv_X8_findArrow rfl sm0 rfl rfl rfl rfl rfl rfl dX8_arrowOf_2 (fun r1 N2 hN2 => ?_)
  obtain ⟨rfl, hJ⟩ := hN2
  refine zq_istore_n (i := 3) (lv' := [some (zr 0), some (zi a1), some (zi a2), some (zi r1), none, none, none]) C dX8_arrowOf_5 rfl (Nat.le_of_ble_eq_true rfl) rfl ?_
  refine zq_iload_n (i := 3) C dX8_arrowOf_6 rfl rfl ?_
  refine zq_bipush (x := (-5)) C dX8_arrowOf_7 bi_m5 ik_m5 ?_
  refine zq_icmp_ne (tgt := 14) C dX8_arrowOf_9 rfl (fun h42 => ?_) (fun h42 => ?_)
  · have hJ := hJ.1 h42
    refine zq_iload_n (i := 2) C dX8_arrowOf_14 rfl rfl ?_
    refine zq_iconst (x := 0) C dX8_arrowOf_15 rfl ik_0 ?_
    refine zq_bipush (x := 7) C dX8_arrowOf_16 bi_7 ik_7 ?_
    refine zq_callSi C [zi a2, zi 0, zi 7] (wM_in l _ _ _ _  hJ) ck_X8_79 st_X8_in rfl rfl rfl rfl rfl rfl dX8_arrowOf_18 (fun r3 N4 hN4 => ?_)
    obtain ⟨rfl, hJ⟩ := hN4
    refine zq_if_ne (tgt := 27) C dX8_arrowOf_21 rfl (fun h41 => ?_) (fun h41 => ?_)
    · have hJ := hJ.1 h41
      refine zq_aload_n (i := 0) C dX8_arrowOf_27 rfl rfl ?_
      refine zq_iload_n (i := 3) C dX8_arrowOf_28 rfl rfl ?_
      refine zq_callVi C [zi r1] (wM_bend l _ _  hJ) ck_X8_92 iv_X8_bend rfl sm0 rfl rfl rfl rfl rfl rfl dX8_arrowOf_29 (fun r5 N6 hN6 => ?_)
      obtain ⟨rfl, hJ⟩ := hN6
      refine zq_istore (lv' := [some (zr 0), some (zi a1), some (zi a2), some (zi r1), some (zi r5), none, none]) C dX8_arrowOf_32 (Nat.le_of_ble_eq_true rfl) rfl ?_
      refine zq_aload_n (i := 0) C dX8_arrowOf_34 rfl rfl ?_
      refine zq_aload_n (i := 0) C dX8_arrowOf_35 rfl rfl ?_
      refine zq_iload_n (i := 3) C dX8_arrowOf_36 rfl rfl ?_
      refine zq_callVi C [zi r1] (wM_from l _ _  hJ) ck_X8_70 iv_X8_from rfl sm0 rfl rfl rfl rfl rfl rfl dX8_arrowOf_37 (fun r7 N8 hN8 => ?_)
      obtain ⟨rfl, hJ⟩ := hN8
      refine zq_callVi C [zi r7] (wM_end l _ _  hJ) ck_X8_56 iv_X8_end rfl sm0 rfl rfl rfl rfl rfl rfl dX8_arrowOf_40 (fun r9 N10 hN10 => ?_)
      obtain ⟨rfl, hJ⟩ := hN10
      refine zq_istore (lv' := [some (zr 0), some (zi a1), some (zi a2), some (zi r1), some (zi r5), some (zi r9), none]) C dX8_arrowOf_43 (Nat.le_of_ble_eq_true rfl) rfl ?_
      refine zq_aload_n (i := 0) C dX8_arrowOf_45 rfl rfl ?_
      refine zq_aload_n (i := 0) C dX8_arrowOf_46 rfl rfl ?_
      refine zq_iload_n (i := 3) C dX8_arrowOf_47 rfl rfl ?_
      refine zq_callVi C [zi r1] (wM_to l _ _  hJ) ck_X8_73 iv_X8_to rfl sm0 rfl rfl rfl rfl rfl rfl dX8_arrowOf_48 (fun r11 N12 hN12 => ?_)
      obtain ⟨rfl, hJ⟩ := hN12
      refine zq_iconst (x := 2) C dX8_arrowOf_51 rfl ik_2 ?_
      refine zq_callVi C [zi r11, zi 2] (wM_of l _ _ _  hJ) ck_X8_48 iv_X8_of rfl sm0 rfl rfl rfl rfl rfl rfl dX8_arrowOf_52 (fun r13 N14 hN14 => ?_)
      obtain ⟨rfl, hJ⟩ := hN14
      refine zq_istore (lv' := [some (zr 0), some (zi a1), some (zi a2), some (zi r1), some (zi r5), some (zi r9), some (zi r13)]) C dX8_arrowOf_55 (Nat.le_of_ble_eq_true rfl) rfl ?_
      refine zq_iload_n (i := 2) C dX8_arrowOf_57 rfl rfl ?_
      by_cases g0 : a2 = 0
      · have hJ := hJ.1 g0
        refine zq_tabIn (tgt := 100) C dX8_arrowOf_58 (by rw [g0]; decide) (by rw [g0]; decide) (by rw [g0]; rfl) rfl ?_
        refine zq_aload_n (i := 0) C dX8_arrowOf_100 rfl rfl ?_
        refine zq_getr C fk_X8_7 sm0 rfl dX8_arrowOf_101 ?_
        refine zq_bipush (x := 122) C dX8_arrowOf_104 bi_122 ik_122 ?_
        refine zq_iconst (x := 3) C dX8_arrowOf_106 rfl ik_3 ?_
        refine zq_iload_n (i := 3) C dX8_arrowOf_107 rfl rfl ?_
        obtain ⟨h15, hJ⟩ := hJ
        refine zq_imul C dX8_arrowOf_108 h15 ?_
        obtain ⟨h16, hJ⟩ := hJ
        refine zq_iadd C dX8_arrowOf_109 h16 ?_
        refine zq_iconst (x := 1) C dX8_arrowOf_110 rfl ik_1 ?_
        obtain ⟨h17, hJ⟩ := hJ
        refine zq_iadd C dX8_arrowOf_111 h17 ?_
        refine zq_iload_n (i := 2) C dX8_arrowOf_112 rfl rfl ?_
        obtain ⟨h18, hJ⟩ := hJ
        refine zq_iadd C dX8_arrowOf_113 h18 ?_
        obtain ⟨h19, h19', hJ⟩ := hJ
        refine zq_iald C sm1 h19 h19' dX8_arrowOf_114 ?_
        exact zq_iret C rfl ⟨_, rfl, hJ⟩ dX8_arrowOf_115
      have hJ := hJ.2 g0
      by_cases g1 : a2 = 1
      · have hJ := hJ.1 g1
        refine zq_tabIn (tgt := 100) C dX8_arrowOf_58 (by rw [g1]; decide) (by rw [g1]; decide) (by rw [g1]; rfl) rfl ?_
        refine zq_aload_n (i := 0) C dX8_arrowOf_100 rfl rfl ?_
        refine zq_getr C fk_X8_7 sm0 rfl dX8_arrowOf_101 ?_
        refine zq_bipush (x := 122) C dX8_arrowOf_104 bi_122 ik_122 ?_
        refine zq_iconst (x := 3) C dX8_arrowOf_106 rfl ik_3 ?_
        refine zq_iload_n (i := 3) C dX8_arrowOf_107 rfl rfl ?_
        obtain ⟨h20, hJ⟩ := hJ
        refine zq_imul C dX8_arrowOf_108 h20 ?_
        obtain ⟨h21, hJ⟩ := hJ
        refine zq_iadd C dX8_arrowOf_109 h21 ?_
        refine zq_iconst (x := 1) C dX8_arrowOf_110 rfl ik_1 ?_
        obtain ⟨h22, hJ⟩ := hJ
        refine zq_iadd C dX8_arrowOf_111 h22 ?_
        refine zq_iload_n (i := 2) C dX8_arrowOf_112 rfl rfl ?_
        obtain ⟨h23, hJ⟩ := hJ
        refine zq_iadd C dX8_arrowOf_113 h23 ?_
        obtain ⟨h24, h24', hJ⟩ := hJ
        refine zq_iald C sm1 h24 h24' dX8_arrowOf_114 ?_
        exact zq_iret C rfl ⟨_, rfl, hJ⟩ dX8_arrowOf_115
      have hJ := hJ.2 g1
      by_cases g2 : a2 = 2
      · have hJ := hJ.1 g2
        refine zq_tabIn (tgt := 116) C dX8_arrowOf_58 (by rw [g2]; decide) (by rw [g2]; decide) (by rw [g2]; rfl) rfl ?_
        refine zq_iload C dX8_arrowOf_116 rfl ?_
        exact zq_iret C rfl ⟨_, rfl, hJ⟩ dX8_arrowOf_118
      have hJ := hJ.2 g2
      by_cases g3 : a2 = 3
      · have hJ := hJ.1 g3
        refine zq_tabIn (tgt := 119) C dX8_arrowOf_58 (by rw [g3]; decide) (by rw [g3]; decide) (by rw [g3]; rfl) rfl ?_
        refine zq_aload_n (i := 0) C dX8_arrowOf_119 rfl rfl ?_
        refine zq_iload_n (i := 3) C dX8_arrowOf_120 rfl rfl ?_
        refine zq_callVi C [zi r1] (wM_lateBy l _ _  hJ) ck_X8_104 iv_X8_lateBy rfl sm0 rfl rfl rfl rfl rfl rfl dX8_arrowOf_121 (fun r25 N26 hN26 => ?_)
        obtain ⟨rfl, hJ⟩ := hN26
        exact zq_iret C rfl ⟨_, rfl, hJ⟩ dX8_arrowOf_124
      have hJ := hJ.2 g3
      by_cases g4 : a2 = 4
      · have hJ := hJ.1 g4
        refine zq_tabIn (tgt := 125) C dX8_arrowOf_58 (by rw [g4]; decide) (by rw [g4]; decide) (by rw [g4]; rfl) rfl ?_
        refine zq_aload_n (i := 0) C dX8_arrowOf_125 rfl rfl ?_
        refine zq_iload_n (i := 3) C dX8_arrowOf_126 rfl rfl ?_
        refine zq_callVi C [zi r1] (wM_freeBends l _ _  hJ) ck_X8_240 iv_X8_freeBends rfl sm0 rfl rfl rfl rfl rfl rfl dX8_arrowOf_127 (fun r27 N28 hN28 => ?_)
        obtain ⟨rfl, hJ⟩ := hN28
        exact zq_iret C rfl ⟨_, rfl, hJ⟩ dX8_arrowOf_130
      have hJ := hJ.2 g4
      by_cases g5 : a2 = 5
      · have hJ := hJ.1 g5
        refine zq_tabIn (tgt := 131) C dX8_arrowOf_58 (by rw [g5]; decide) (by rw [g5]; decide) (by rw [g5]; rfl) rfl ?_
        refine zq_iload C dX8_arrowOf_131 rfl ?_
        refine zq_bipush (x := (-5)) C dX8_arrowOf_133 bi_m5 ik_m5 ?_
        refine zq_icmp_ne (tgt := 143) C dX8_arrowOf_135 rfl (fun h31 => ?_) (fun h31 => ?_)
        · have hJ := hJ.1 h31
          refine zq_aload_n (i := 0) C dX8_arrowOf_143 rfl rfl ?_
          refine zq_iload C dX8_arrowOf_144 rfl ?_
          refine zq_iload C dX8_arrowOf_146 rfl ?_
          refine zq_callVi C [zi r9, zi r13] (wM_widthOf l _ _ _  hJ) ck_X8_115 iv_X8_widthOf rfl sm0 rfl rfl rfl rfl rfl rfl dX8_arrowOf_148 (fun r29 N30 hN30 => ?_)
          obtain ⟨rfl, hJ⟩ := hN30
          exact zq_iret C rfl ⟨_, rfl, hJ⟩ dX8_arrowOf_151
        · have hJ := hJ.2 h31
          refine zq_bipush (x := (-5)) C dX8_arrowOf_138 bi_m5 ik_m5 ?_
          refine zq_goto (tgt := 151) C dX8_arrowOf_140 rfl ?_
          exact zq_iret C rfl ⟨_, rfl, hJ⟩ dX8_arrowOf_151
      have hJ := hJ.2 g5
      by_cases g6 : a2 = 6
      · have hJ := hJ.1 g6
        refine zq_tabIn (tgt := 152) C dX8_arrowOf_58 (by rw [g6]; decide) (by rw [g6]; decide) (by rw [g6]; rfl) rfl ?_
        refine zq_aload_n (i := 0) C dX8_arrowOf_152 rfl rfl ?_
        refine zq_iload_n (i := 3) C dX8_arrowOf_153 rfl rfl ?_
        refine zq_callVi C [zi r1] (wM_pointsOf l _ _  hJ) ck_X8_243 iv_X8_pointsOf rfl sm0 rfl rfl rfl rfl rfl rfl dX8_arrowOf_154 (fun r32 M33 hJ => ?_)
        exact zq_iret C rfl ⟨_, rfl, hJ⟩ dX8_arrowOf_157
      have hJ := hJ.2 g6
      refine zq_tabOut (tgt := 158) C dX8_arrowOf_58 (zto7 g0 g1 g2 g3 g4 g5 g6) rfl ?_
      refine zq_iload C dX8_arrowOf_158 rfl ?_
      refine zq_bipush (x := (-5)) C dX8_arrowOf_160 bi_m5 ik_m5 ?_
      refine zq_icmp_ne (tgt := 170) C dX8_arrowOf_162 rfl (fun h40 => ?_) (fun h40 => ?_)
      · have hJ := hJ.1 h40
        refine zq_aload_n (i := 0) C dX8_arrowOf_170 rfl rfl ?_
        refine zq_iload C dX8_arrowOf_171 rfl ?_
        refine zq_callVi C [zi r13] (wM_stripOf l _ _  hJ) ck_X8_121 iv_X8_stripOf rfl sm0 rfl rfl rfl rfl rfl rfl dX8_arrowOf_173 (fun r34 N35 hN35 => ?_)
        obtain ⟨rfl, hJ⟩ := hN35
        refine zq_aload_n (i := 0) C dX8_arrowOf_176 rfl rfl ?_
        refine zq_iload C dX8_arrowOf_177 rfl ?_
        refine zq_iconst (x := 1) C dX8_arrowOf_179 rfl ik_1 ?_
        obtain ⟨h36, hJ⟩ := hJ
        refine zq_isub C dX8_arrowOf_180 h36 ?_
        refine zq_callVi C [zi (r9 - 1)] (wM_stripOf l _ _  hJ) ck_X8_121 iv_X8_stripOf rfl sm0 rfl rfl rfl rfl rfl rfl dX8_arrowOf_181 (fun r37 N38 hN38 => ?_)
        obtain ⟨rfl, hJ⟩ := hN38
        obtain ⟨h39, hJ⟩ := hJ
        refine zq_isub C dX8_arrowOf_184 h39 ?_
        exact zq_iret C rfl ⟨_, rfl, hJ⟩ dX8_arrowOf_185
      · have hJ := hJ.2 h40
        refine zq_bipush (x := (-5)) C dX8_arrowOf_165 bi_m5 ik_m5 ?_
        refine zq_goto (tgt := 185) C dX8_arrowOf_167 rfl ?_
        exact zq_iret C rfl ⟨_, rfl, hJ⟩ dX8_arrowOf_185
    · have hJ := hJ.2 h41
      refine zq_bipush (x := (-2)) C dX8_arrowOf_24 bi_m2 ik_m2 ?_
      exact zq_iret C rfl ⟨_, rfl, hJ⟩ dX8_arrowOf_26
  · have hJ := hJ.2 h42
    refine zq_iconst (x := (-1)) C dX8_arrowOf_12 rfl ik_m1 ?_
    exact zq_iret C rfl ⟨_, rfl, hJ⟩ dX8_arrowOf_13
set_option maxRecDepth 100000 in
set_option maxHeartbeats 4000000 in
theorem wM_reason (l : Launch) (a1 a2 : Int) (M : zM) {Φ : Int → Prop} (hJ : jM_reason a1 a2 M Φ) : zMet l yX8_reason cX8_reason 4 (some .int) 4 93 shM [zr 0, zi a1, zi a2] M (zI (fun z M' => M = M' ∧ Φ z)) := by
  refine zq_enter [some (zr 0), some (zi a1), some (zi a2), none] (by decide) rfl (Nat.le_of_ble_eq_true rfl) rfl (fun X C => ?_)
  unfold jM_reason at hJ
  refine zq_aload_n (i := 0) C dX8_reason_0 rfl rfl ?_
  refine zq_iload_n (i := 1) C dX8_reason_1 rfl rfl ?_
  refine zq_callVi C [zi a1] (wM_findArrow l _ _  hJ) ck_X8_144 iv_X8_findArrow rfl sm0 rfl rfl rfl rfl rfl rfl dX8_reason_2 (fun r1 N2 hN2 => ?_)
  obtain ⟨rfl, hJ⟩ := hN2
  refine zq_istore_n (i := 3) (lv' := [some (zr 0), some (zi a1), some (zi a2), some (zi r1)]) C dX8_reason_5 rfl (Nat.le_of_ble_eq_true rfl) rfl ?_
  refine zq_iload_n (i := 3) C dX8_reason_6 rfl rfl ?_
  refine zq_bipush (x := (-5)) C dX8_reason_7 bi_m5 ik_m5 ?_
  refine zq_icmp_ne (tgt := 16) C dX8_reason_9 rfl (fun h5 => ?_) (fun h5 => ?_)
  · have hJ := hJ.1 h5
    refine zq_aload_n (i := 0) C dX8_reason_16 rfl rfl ?_
    refine zq_iload_n (i := 3) C dX8_reason_17 rfl rfl ?_
    refine zq_iload_n (i := 2) C dX8_reason_18 rfl rfl ?_
    refine zq_callVi C [zi r1, zi a2] (wM_reasonFor l _ _ _  hJ) ck_X8_86 iv_X8_reasonFor rfl sm0 rfl rfl rfl rfl rfl rfl dX8_reason_19 (fun r3 N4 hN4 => ?_)
    obtain ⟨rfl, hJ⟩ := hN4
    exact zq_iret C rfl ⟨_, rfl, rfl, hJ⟩ dX8_reason_22
  · have hJ := hJ.2 h5
    refine zq_iconst (x := (-1)) C dX8_reason_12 rfl ik_m1 ?_
    refine zq_goto (tgt := 22) C dX8_reason_13 rfl ?_
    exact zq_iret C rfl ⟨_, rfl, rfl, hJ⟩ dX8_reason_22
set_option maxRecDepth 100000 in
set_option maxHeartbeats 4000000 in
theorem wM_cell (l : Launch) (a1 a2 : Int) (M : zM) {Φ : Int → Prop} (hJ : jM_cell a1 a2 M Φ) : zMet l yX8_cell cX8_cell 4 (some .int) 3 68 shM [zr 0, zi a1, zi a2] M (zI (fun z M' => M = M' ∧ Φ z)) := by
  refine zq_enter [some (zr 0), some (zi a1), some (zi a2), none] (by decide) rfl (Nat.le_of_ble_eq_true rfl) rfl (fun X C => ?_)
  unfold jM_cell at hJ
  refine zq_iload_n (i := 1) C dX8_cell_0 rfl rfl ?_
  refine zq_callSi C [zi a1] (wM_isLane l _ _  hJ) ck_X8_130 st_X8_isLane rfl rfl rfl rfl rfl rfl dX8_cell_1 (fun r1 N2 hN2 => ?_)
  obtain ⟨rfl, hJ⟩ := hN2
  refine zq_if_eq (tgt := 18) C dX8_cell_4 rfl (fun h11 => ?_) (fun h11 => ?_)
  · have hJ := hJ.1 h11
    refine zq_iconst (x := (-1)) C dX8_cell_18 rfl ik_m1 ?_
    exact zq_iret C rfl ⟨_, rfl, rfl, hJ⟩ dX8_cell_19
  · have hJ := hJ.2 h11
    refine zq_iload_n (i := 2) C dX8_cell_7 rfl rfl ?_
    refine zq_iconst (x := 0) C dX8_cell_8 rfl ik_0 ?_
    refine zq_sipush (x := 199) C dX8_cell_9 si_199 ik_199 ?_
    refine zq_callSi C [zi a2, zi 0, zi 199] (wM_in l _ _ _ _  hJ) ck_X8_79 st_X8_in rfl rfl rfl rfl rfl rfl dX8_cell_12 (fun r3 N4 hN4 => ?_)
    obtain ⟨rfl, hJ⟩ := hN4
    refine zq_if_ne (tgt := 20) C dX8_cell_15 rfl (fun h10 => ?_) (fun h10 => ?_)
    · have hJ := hJ.1 h10
      refine zq_aload_n (i := 0) C dX8_cell_20 rfl rfl ?_
      refine zq_iload_n (i := 1) C dX8_cell_21 rfl rfl ?_
      refine zq_iload_n (i := 2) C dX8_cell_22 rfl rfl ?_
      refine zq_iload_n (i := 2) C dX8_cell_23 rfl rfl ?_
      refine zq_bipush (x := (-5)) C dX8_cell_24 bi_m5 ik_m5 ?_
      refine zq_callVi C [zi a1, zi a2, zi a2, zi (-5)] (wM_within l _ _ _ _ _  hJ) ck_X8_62 iv_X8_within rfl sm0 rfl rfl rfl rfl rfl rfl dX8_cell_26 (fun r5 N6 hN6 => ?_)
      obtain ⟨rfl, hJ⟩ := hN6
      refine zq_istore_n (i := 3) (lv' := [some (zr 0), some (zi a1), some (zi a2), some (zi r5)]) C dX8_cell_29 rfl (Nat.le_of_ble_eq_true rfl) rfl ?_
      refine zq_iload_n (i := 3) C dX8_cell_30 rfl rfl ?_
      refine zq_bipush (x := (-5)) C dX8_cell_31 bi_m5 ik_m5 ?_
      refine zq_icmp_ne (tgt := 41) C dX8_cell_33 rfl (fun h9 => ?_) (fun h9 => ?_)
      · have hJ := hJ.1 h9
        refine zq_aload_n (i := 0) C dX8_cell_41 rfl rfl ?_
        refine zq_iload_n (i := 3) C dX8_cell_42 rfl rfl ?_
        refine zq_iconst (x := 0) C dX8_cell_43 rfl ik_0 ?_
        refine zq_callVi C [zi r5, zi 0] (wM_of l _ _ _  hJ) ck_X8_48 iv_X8_of rfl sm0 rfl rfl rfl rfl rfl rfl dX8_cell_44 (fun r7 N8 hN8 => ?_)
        obtain ⟨rfl, hJ⟩ := hN8
        exact zq_iret C rfl ⟨_, rfl, rfl, hJ⟩ dX8_cell_47
      · have hJ := hJ.2 h9
        refine zq_bipush (x := (-5)) C dX8_cell_36 bi_m5 ik_m5 ?_
        refine zq_goto (tgt := 47) C dX8_cell_38 rfl ?_
        exact zq_iret C rfl ⟨_, rfl, rfl, hJ⟩ dX8_cell_47
    · have hJ := hJ.2 h10
      refine zq_iconst (x := (-1)) C dX8_cell_18 rfl ik_m1 ?_
      exact zq_iret C rfl ⟨_, rfl, rfl, hJ⟩ dX8_cell_19
set_option maxRecDepth 100000 in
set_option maxHeartbeats 4000000 in
theorem wM_strip (l : Launch) (a1 a2 : Int) (M : zM) {Φ : Int → Prop} (hJ : jM_strip a1 a2 M Φ) : zMet l yX8_strip cX8_strip 8 (some .int) 5 111 shM [zr 0, zi a1, zi a2] M (zI (fun z M' => M = M' ∧ Φ z)) := by
  refine zq_enter [some (zr 0), some (zi a1), some (zi a2), none, none, none, none, none] (by decide) rfl (Nat.le_of_ble_eq_true rfl) rfl (fun X C => ?_)
  unfold jM_strip at hJ
  have hl53 : ∀ (x3 x4 : Int) (s : Int × Int × Int), zwh (fun K s => jM_strip_L53 a1 a2 K Φ x3 x4 M (s.1) (s.2.1) (s.2.2)) s → zG X M 53 [some (zr 0), some (zi a1), some (zi a2), some (zi x3), some (zi x4), some (zi (s.1)), some (zi (s.2.1)), some (zi (s.2.2))] [] := by
    intro x3 x4
    refine zwh_sound ?_
    intro K53 s hK53 hJ
    obtain ⟨x5, x6, x7⟩ := s
    have hJ : jM_strip_L53 a1 a2 K53 Φ x3 x4 M x5 x6 x7 := hJ
    show zG X M 53 [some (zr 0), some (zi a1), some (zi a2), some (zi x3), some (zi x4), some (zi x5), some (zi x6), some (zi x7)] []
    unfold jM_strip_L53 at hJ
    have hj93 : ∀ (x6 x7 s0 s1 : Int), jM_strip_J93 a1 a2 K53 Φ x3 x4 x6 x7 s0 s1 M → zG X M 93 [some (zr 0), some (zi a1), some (zi a2), some (zi x3), some (zi x4), none, some (zi x6), some (zi x7)] [zi s1, zi s0] := by
      intro x6 x7 s0 s1 hJ
      unfold jM_strip_J93 at hJ
      obtain ⟨h18, hJ⟩ := hJ
      refine zq_iadd C dX8_strip_93 h18 ?_
      refine zq_istoreN C (fun v => [some (zr 0), some (zi a1), some (zi a2), some (zi x3), some (zi x4), some (zi v), some (zi x6), some (zi x7)]) dX8_strip_94 (Nat.le_of_ble_eq_true rfl) (fun _ => rfl) (fun v5_19 hv5_19 => ?_)
      have hJ := hJ v5_19 hv5_19
      refine zq_iload C dX8_strip_96 rfl ?_
      refine zq_aload_n (i := 0) C dX8_strip_98 rfl rfl ?_
      refine zq_iload C dX8_strip_99 rfl ?_
      refine zq_iconst (x := 2) C dX8_strip_101 rfl ik_2 ?_
      refine zq_callVi C [zi x7, zi 2] (wM_of l _ _ _  hJ) ck_X8_48 iv_X8_of rfl sm0 rfl rfl rfl rfl rfl rfl dX8_strip_102 (fun r20 N21 hN21 => ?_)
      obtain ⟨rfl, hJ⟩ := hN21
      refine zq_iload_n (i := 3) C dX8_strip_105 rfl rfl ?_
      refine zq_iload C dX8_strip_106 rfl ?_
      refine zq_iconst (x := 1) C dX8_strip_108 rfl ik_1 ?_
      obtain ⟨h22, hJ⟩ := hJ
      refine zq_isub C dX8_strip_109 h22 ?_
      refine zq_callSi C [zi r20, zi x3, zi (x4 - 1)] (wM_in l _ _ _ _  hJ) ck_X8_79 st_X8_in rfl rfl rfl rfl rfl rfl dX8_strip_110 (fun r23 N24 hN24 => ?_)
      obtain ⟨rfl, hJ⟩ := hN24
      refine zq_if_eq (tgt := 120) C dX8_strip_113 rfl (fun h31 => ?_) (fun h31 => ?_)
      · have hJ := hJ.1 h31
        refine zq_iconst (x := 0) C dX8_strip_120 rfl ik_0 ?_
        obtain ⟨h25, hJ⟩ := hJ
        refine zq_iadd C dX8_strip_121 h25 ?_
        refine zq_istoreN C (fun v => [some (zr 0), some (zi a1), some (zi a2), some (zi x3), some (zi x4), some (zi v5_19), some (zi v), some (zi x7)]) dX8_strip_122 (Nat.le_of_ble_eq_true rfl) (fun _ => rfl) (fun v6_26 hv6_26 => ?_)
        have hJ := hJ v6_26 hv6_26
        obtain ⟨hv7_27, hJ⟩ := hJ
        refine zq_iinc (y := x7 + 1) (lv' := [some (zr 0), some (zi a1), some (zi a2), some (zi x3), some (zi x4), some (zi v5_19), some (zi v6_26), some (zi (x7 + 1))]) C dX8_strip_124 rfl rfl hv7_27 rfl ?_
        obtain ⟨v7_27, ev7_27⟩ : ∃ z, z = x7 + 1 := ⟨_, rfl⟩
        rw [← ev7_27]
        have hJ := hJ v7_27 ev7_27
        refine zq_goto (tgt := 53) C dX8_strip_127 rfl ?_
        exact hK53 _ hJ
      · have hJ := hJ.2 h31
        refine zq_iconst (x := 1) C dX8_strip_116 rfl ik_1 ?_
        refine zq_goto (tgt := 121) C dX8_strip_117 rfl ?_
        obtain ⟨h28, hJ⟩ := hJ
        refine zq_iadd C dX8_strip_121 h28 ?_
        refine zq_istoreN C (fun v => [some (zr 0), some (zi a1), some (zi a2), some (zi x3), some (zi x4), some (zi v5_19), some (zi v), some (zi x7)]) dX8_strip_122 (Nat.le_of_ble_eq_true rfl) (fun _ => rfl) (fun v6_29 hv6_29 => ?_)
        have hJ := hJ v6_29 hv6_29
        obtain ⟨hv7_30, hJ⟩ := hJ
        refine zq_iinc (y := x7 + 1) (lv' := [some (zr 0), some (zi a1), some (zi a2), some (zi x3), some (zi x4), some (zi v5_19), some (zi v6_29), some (zi (x7 + 1))]) C dX8_strip_124 rfl rfl hv7_30 rfl ?_
        obtain ⟨v7_30, ev7_30⟩ : ∃ z, z = x7 + 1 := ⟨_, rfl⟩
        rw [← ev7_30]
        have hJ := hJ v7_30 ev7_30
        refine zq_goto (tgt := 53) C dX8_strip_127 rfl ?_
        exact hK53 _ hJ
    have hj92 : ∀ (x6 x7 s0 : Int), jM_strip_J92 a1 a2 K53 Φ x3 x4 x6 x7 s0 M → zG X M 92 [some (zr 0), some (zi a1), some (zi a2), some (zi x3), some (zi x4), none, some (zi x6), some (zi x7)] [zi s0] := by
      intro x6 x7 s0 hJ
      unfold jM_strip_J92 at hJ
      refine zq_iconst (x := 0) C dX8_strip_92 rfl ik_0 ?_
      exact hj93 _ _ _ _ hJ
    refine zq_iload C dX8_strip_53 rfl ?_
    refine zq_aload_n (i := 0) C dX8_strip_55 rfl rfl ?_
    refine zq_getr C fk_X8_7 sm0 rfl dX8_strip_56 ?_
    refine zq_iconst (x := 0) C dX8_strip_59 rfl ik_0 ?_
    refine zq_iald C sm1 (by decide) (by decide) dX8_strip_60 ?_
    refine zq_icmp_ge (tgt := 130) C dX8_strip_61 rfl (fun h36 => ?_) (fun h36 => ?_)
    · have hJ := hJ.1 h36
      refine zq_iload_n (i := 2) C dX8_strip_130 rfl rfl ?_
      refine zq_if_ne (tgt := 138) C dX8_strip_131 rfl (fun h15 => ?_) (fun h15 => ?_)
      · have hJ := hJ.1 h15
        refine zq_iload_n (i := 2) C dX8_strip_138 rfl rfl ?_
        refine zq_iconst (x := 1) C dX8_strip_139 rfl ik_1 ?_
        refine zq_icmp_ne (tgt := 150) C dX8_strip_140 rfl (fun h14 => ?_) (fun h14 => ?_)
        · have hJ := hJ.1 h14
          refine zq_iload_n (i := 2) C dX8_strip_150 rfl rfl ?_
          refine zq_iconst (x := 2) C dX8_strip_151 rfl ik_2 ?_
          refine zq_icmp_ne (tgt := 165) C dX8_strip_152 rfl (fun h12 => ?_) (fun h12 => ?_)
          · have hJ := hJ.1 h12
            refine zq_iload_n (i := 2) C dX8_strip_165 rfl rfl ?_
            refine zq_iconst (x := 3) C dX8_strip_166 rfl ik_3 ?_
            refine zq_icmp_ne (tgt := 175) C dX8_strip_167 rfl (fun h9 => ?_) (fun h9 => ?_)
            · have hJ := hJ.1 h9
              refine zq_iload C dX8_strip_175 rfl ?_
              exact zq_iret C rfl ⟨_, rfl, rfl, hJ⟩ dX8_strip_177
            · have hJ := hJ.2 h9
              refine zq_iload C dX8_strip_170 rfl ?_
              refine zq_goto (tgt := 177) C dX8_strip_172 rfl ?_
              exact zq_iret C rfl ⟨_, rfl, rfl, hJ⟩ dX8_strip_177
          · have hJ := hJ.2 h12
            refine zq_aload_n (i := 0) C dX8_strip_155 rfl rfl ?_
            refine zq_iload_n (i := 3) C dX8_strip_156 rfl rfl ?_
            refine zq_iload C dX8_strip_157 rfl ?_
            refine zq_callVi C [zi x3, zi x4] (wM_widthOf l _ _ _  hJ) ck_X8_115 iv_X8_widthOf rfl sm0 rfl rfl rfl rfl rfl rfl dX8_strip_159 (fun r10 N11 hN11 => ?_)
            obtain ⟨rfl, hJ⟩ := hN11
            refine zq_goto (tgt := 177) C dX8_strip_162 rfl ?_
            exact zq_iret C rfl ⟨_, rfl, rfl, hJ⟩ dX8_strip_177
        · have hJ := hJ.2 h14
          refine zq_iload C dX8_strip_143 rfl ?_
          refine zq_iload_n (i := 3) C dX8_strip_145 rfl rfl ?_
          obtain ⟨h13, hJ⟩ := hJ
          refine zq_isub C dX8_strip_146 h13 ?_
          refine zq_goto (tgt := 177) C dX8_strip_147 rfl ?_
          exact zq_iret C rfl ⟨_, rfl, rfl, hJ⟩ dX8_strip_177
      · have hJ := hJ.2 h15
        refine zq_iload_n (i := 3) C dX8_strip_134 rfl rfl ?_
        refine zq_goto (tgt := 177) C dX8_strip_135 rfl ?_
        exact zq_iret C rfl ⟨_, rfl, rfl, hJ⟩ dX8_strip_177
    · have hJ := hJ.2 h36
      refine zq_iload C dX8_strip_64 rfl ?_
      refine zq_aload_n (i := 0) C dX8_strip_66 rfl rfl ?_
      refine zq_iload C dX8_strip_67 rfl ?_
      refine zq_iconst (x := 2) C dX8_strip_69 rfl ik_2 ?_
      refine zq_callVi C [zi x7, zi 2] (wM_of l _ _ _  hJ) ck_X8_48 iv_X8_of rfl sm0 rfl rfl rfl rfl rfl rfl dX8_strip_70 (fun r16 N17 hN17 => ?_)
      obtain ⟨rfl, hJ⟩ := hN17
      refine zq_iload C dX8_strip_73 rfl ?_
      refine zq_icmp_ge (tgt := 92) C dX8_strip_75 rfl (fun h35 => ?_) (fun h35 => ?_)
      · have hJ := hJ.1 h35
        refine zq_weak [some (zr 0), some (zi a1), some (zi a2), some (zi x3), some (zi x4), none, some (zi x6), some (zi x7)] ⟨Or.inr rfl, Or.inr rfl, Or.inr rfl, Or.inr rfl, Or.inr rfl, Or.inl rfl, Or.inr rfl, Or.inr rfl, trivial⟩ ?_
        exact hj92 _ _ _ hJ
      · have hJ := hJ.2 h35
        refine zq_aload_n (i := 0) C dX8_strip_78 rfl rfl ?_
        refine zq_iload C dX8_strip_79 rfl ?_
        refine zq_callVi C [zi x7] (wM_end l _ _  hJ) ck_X8_56 iv_X8_end rfl sm0 rfl rfl rfl rfl rfl rfl dX8_strip_81 (fun r32 N33 hN33 => ?_)
        obtain ⟨rfl, hJ⟩ := hN33
        refine zq_iload_n (i := 3) C dX8_strip_84 rfl rfl ?_
        refine zq_icmp_le (tgt := 92) C dX8_strip_85 rfl (fun h34 => ?_) (fun h34 => ?_)
        · have hJ := hJ.1 h34
          refine zq_weak [some (zr 0), some (zi a1), some (zi a2), some (zi x3), some (zi x4), none, some (zi x6), some (zi x7)] ⟨Or.inr rfl, Or.inr rfl, Or.inr rfl, Or.inr rfl, Or.inr rfl, Or.inl rfl, Or.inr rfl, Or.inr rfl, trivial⟩ ?_
          exact hj92 _ _ _ hJ
        · have hJ := hJ.2 h34
          refine zq_iconst (x := 1) C dX8_strip_88 rfl ik_1 ?_
          refine zq_goto (tgt := 93) C dX8_strip_89 rfl ?_
          refine zq_weak [some (zr 0), some (zi a1), some (zi a2), some (zi x3), some (zi x4), none, some (zi x6), some (zi x7)] ⟨Or.inr rfl, Or.inr rfl, Or.inr rfl, Or.inr rfl, Or.inr rfl, Or.inl rfl, Or.inr rfl, Or.inr rfl, trivial⟩ ?_
          exact hj93 _ _ _ _ hJ
  refine zq_iload_n (i := 1) C dX8_strip_0 rfl rfl ?_
  refine zq_if_lt (tgt := 13) C dX8_strip_1 rfl (fun h39 => ?_) (fun h39 => ?_)
  · have hJ := hJ.1 h39
    refine zq_bipush (x := (-2)) C dX8_strip_13 bi_m2 ik_m2 ?_
    exact zq_iret C rfl ⟨_, rfl, rfl, hJ⟩ dX8_strip_15
  · have hJ := hJ.2 h39
    refine zq_iload_n (i := 2) C dX8_strip_4 rfl rfl ?_
    refine zq_iconst (x := 0) C dX8_strip_5 rfl ik_0 ?_
    refine zq_iconst (x := 4) C dX8_strip_6 rfl ik_4 ?_
    refine zq_callSi C [zi a2, zi 0, zi 4] (wM_in l _ _ _ _  hJ) ck_X8_79 st_X8_in rfl rfl rfl rfl rfl rfl dX8_strip_7 (fun r1 N2 hN2 => ?_)
    obtain ⟨rfl, hJ⟩ := hN2
    refine zq_if_ne (tgt := 16) C dX8_strip_10 rfl (fun h38 => ?_) (fun h38 => ?_)
    · have hJ := hJ.1 h38
      refine zq_aload_n (i := 0) C dX8_strip_16 rfl rfl ?_
      refine zq_iload_n (i := 1) C dX8_strip_17 rfl rfl ?_
      refine zq_sipush (x := 200) C dX8_strip_18 si_200 ik_200 ?_
      refine zq_callSi C [zi a1, zi 200] (wM_least l _ _ _  hJ) ck_X8_76 st_X8_least rfl rfl rfl rfl rfl rfl dX8_strip_21 (fun r3 N4 hN4 => ?_)
      obtain ⟨rfl, hJ⟩ := hN4
      refine zq_callVi C [zi r3] (wM_stripStart l _ _  hJ) ck_X8_246 iv_X8_stripStart rfl sm0 rfl rfl rfl rfl rfl rfl dX8_strip_24 (fun r5 N6 hN6 => ?_)
      obtain ⟨rfl, hJ⟩ := hN6
      refine zq_istore_n (i := 3) (lv' := [some (zr 0), some (zi a1), some (zi a2), some (zi r5), none, none, none, none]) C dX8_strip_27 rfl (Nat.le_of_ble_eq_true rfl) rfl ?_
      refine zq_iload_n (i := 3) C dX8_strip_28 rfl rfl ?_
      refine zq_bipush (x := (-5)) C dX8_strip_29 bi_m5 ik_m5 ?_
      refine zq_icmp_ne (tgt := 37) C dX8_strip_31 rfl (fun h37 => ?_) (fun h37 => ?_)
      · have hJ := hJ.1 h37
        refine zq_aload_n (i := 0) C dX8_strip_37 rfl rfl ?_
        refine zq_iload_n (i := 3) C dX8_strip_38 rfl rfl ?_
        refine zq_callVi C [zi r5] (wM_stripEnd l _ _  hJ) ck_X8_118 iv_X8_stripEnd rfl sm0 rfl rfl rfl rfl rfl rfl dX8_strip_39 (fun r7 N8 hN8 => ?_)
        obtain ⟨rfl, hJ⟩ := hN8
        refine zq_istore (lv' := [some (zr 0), some (zi a1), some (zi a2), some (zi r5), some (zi r7), none, none, none]) C dX8_strip_42 (Nat.le_of_ble_eq_true rfl) rfl ?_
        refine zq_iconst (x := 0) C dX8_strip_44 rfl ik_0 ?_
        refine zq_istore (lv' := [some (zr 0), some (zi a1), some (zi a2), some (zi r5), some (zi r7), some (zi 0), none, none]) C dX8_strip_45 (Nat.le_of_ble_eq_true rfl) rfl ?_
        refine zq_iconst (x := 0) C dX8_strip_47 rfl ik_0 ?_
        refine zq_istore (lv' := [some (zr 0), some (zi a1), some (zi a2), some (zi r5), some (zi r7), some (zi 0), some (zi 0), none]) C dX8_strip_48 (Nat.le_of_ble_eq_true rfl) rfl ?_
        refine zq_iconst (x := 0) C dX8_strip_50 rfl ik_0 ?_
        refine zq_istore (lv' := [some (zr 0), some (zi a1), some (zi a2), some (zi r5), some (zi r7), some (zi 0), some (zi 0), some (zi 0)]) C dX8_strip_51 (Nat.le_of_ble_eq_true rfl) rfl ?_
        exact hl53 _ _ _ hJ
      · have hJ := hJ.2 h37
        refine zq_bipush (x := (-5)) C dX8_strip_34 bi_m5 ik_m5 ?_
        exact zq_iret C rfl ⟨_, rfl, rfl, hJ⟩ dX8_strip_36
    · have hJ := hJ.2 h38
      refine zq_bipush (x := (-2)) C dX8_strip_13 bi_m2 ik_m2 ?_
      exact zq_iret C rfl ⟨_, rfl, rfl, hJ⟩ dX8_strip_15
set_option maxRecDepth 100000 in
set_option maxHeartbeats 4000000 in
theorem wM_count (l : Launch) (a1 : Int) (M : zM) {Φ : Int → zM → Prop} (hJ : jM_count a1 M Φ) : zMet l yX8_count cX8_count 2 (some .int) 7 161 shM [zr 0, zi a1] M (zI Φ) := by
  refine zq_enter [some (zr 0), some (zi a1)] (by decide) rfl (Nat.le_of_ble_eq_true rfl) rfl (fun X C => ?_)
  unfold jM_count at hJ
  refine zq_iload_n (i := 1) C dX8_count_0 rfl rfl ?_
  by_cases g0 : a1 = 0
  · have hJ := hJ.1 g0
    refine zq_tabIn (tgt := 84) C dX8_count_1 (by rw [g0]; decide) (by rw [g0]; decide) (by rw [g0]; rfl) rfl ?_
    refine zq_aload_n (i := 0) C dX8_count_84 rfl rfl ?_
    refine zq_getr C fk_X8_7 sm0 rfl dX8_count_85 ?_
    refine zq_iconst (x := 0) C dX8_count_88 rfl ik_0 ?_
    refine zq_iald C sm1 (by decide) (by decide) dX8_count_89 ?_
    exact zq_iret C rfl ⟨_, rfl, hJ⟩ dX8_count_90
  have hJ := hJ.2 g0
  by_cases g1 : a1 = 1
  · have hJ := hJ.1 g1
    refine zq_tabIn (tgt := 91) C dX8_count_1 (by rw [g1]; decide) (by rw [g1]; decide) (by rw [g1]; rfl) rfl ?_
    refine zq_aload_n (i := 0) C dX8_count_91 rfl rfl ?_
    refine zq_getr C fk_X8_7 sm0 rfl dX8_count_92 ?_
    refine zq_bipush (x := 121) C dX8_count_95 bi_121 ik_121 ?_
    refine zq_iald C sm1 (by decide) (by decide) dX8_count_97 ?_
    exact zq_iret C rfl ⟨_, rfl, hJ⟩ dX8_count_98
  have hJ := hJ.2 g1
  by_cases g2 : a1 = 2
  · have hJ := hJ.1 g2
    refine zq_tabIn (tgt := 99) C dX8_count_1 (by rw [g2]; decide) (by rw [g2]; decide) (by rw [g2]; rfl) rfl ?_
    refine zq_aload_n (i := 0) C dX8_count_99 rfl rfl ?_
    refine zq_callVi C [] (wM_lanes l _  hJ) ck_X8_157 iv_X8_lanes rfl sm0 rfl rfl rfl rfl rfl rfl dX8_count_100 (fun r1 N2 hN2 => ?_)
    obtain ⟨rfl, hJ⟩ := hN2
    exact zq_iret C rfl ⟨_, rfl, hJ⟩ dX8_count_103
  have hJ := hJ.2 g2
  by_cases g3 : a1 = 3
  · have hJ := hJ.1 g3
    refine zq_tabIn (tgt := 104) C dX8_count_1 (by rw [g3]; decide) (by rw [g3]; decide) (by rw [g3]; rfl) rfl ?_
    refine zq_aload_n (i := 0) C dX8_count_104 rfl rfl ?_
    refine zq_callVi C [] (wM_notDrawn l _  hJ) ck_X8_147 iv_X8_notDrawn rfl sm0 rfl rfl rfl rfl rfl rfl dX8_count_105 (fun r3 N4 hN4 => ?_)
    obtain ⟨rfl, hJ⟩ := hN4
    exact zq_iret C rfl ⟨_, rfl, hJ⟩ dX8_count_108
  have hJ := hJ.2 g3
  by_cases g4 : a1 = 4
  · have hJ := hJ.1 g4
    refine zq_tabIn (tgt := 109) C dX8_count_1 (by rw [g4]; decide) (by rw [g4]; decide) (by rw [g4]; rfl) rfl ?_
    refine zq_aload_n (i := 0) C dX8_count_109 rfl rfl ?_
    refine zq_iconst (x := 1) C dX8_count_110 rfl ik_1 ?_
    refine zq_callVi C [zi 1] (wM_arrowsThat l _ _  hJ) ck_X8_107 iv_X8_arrowsThat rfl sm0 rfl rfl rfl rfl rfl rfl dX8_count_111 (fun r5 N6 hN6 => ?_)
    obtain ⟨rfl, hJ⟩ := hN6
    exact zq_iret C rfl ⟨_, rfl, hJ⟩ dX8_count_114
  have hJ := hJ.2 g4
  by_cases g5 : a1 = 5
  · have hJ := hJ.1 g5
    refine zq_tabIn (tgt := 115) C dX8_count_1 (by rw [g5]; decide) (by rw [g5]; decide) (by rw [g5]; rfl) rfl ?_
    refine zq_aload_n (i := 0) C dX8_count_115 rfl rfl ?_
    refine zq_callVi C [] (wM_allPoints l _  hJ) ck_X8_249 iv_X8_allPoints rfl sm0 rfl rfl rfl rfl rfl rfl dX8_count_116 (fun r7 M8 hJ => ?_)
    exact zq_iret C rfl ⟨_, rfl, hJ⟩ dX8_count_119
  have hJ := hJ.2 g5
  by_cases g6 : a1 = 6
  · have hJ := hJ.1 g6
    refine zq_tabIn (tgt := 120) C dX8_count_1 (by rw [g6]; decide) (by rw [g6]; decide) (by rw [g6]; rfl) rfl ?_
    refine zq_aload_n (i := 0) C dX8_count_120 rfl rfl ?_
    refine zq_callVi C [] (wM_greatestEnd l _  hJ) ck_X8_111 iv_X8_greatestEnd rfl sm0 rfl rfl rfl rfl rfl rfl dX8_count_121 (fun r9 N10 hN10 => ?_)
    obtain ⟨rfl, hJ⟩ := hN10
    exact zq_iret C rfl ⟨_, rfl, hJ⟩ dX8_count_124
  have hJ := hJ.2 g6
  by_cases g7 : a1 = 7
  · have hJ := hJ.1 g7
    refine zq_tabIn (tgt := 125) C dX8_count_1 (by rw [g7]; decide) (by rw [g7]; decide) (by rw [g7]; rfl) rfl ?_
    refine zq_aload_n (i := 0) C dX8_count_125 rfl rfl ?_
    refine zq_callVi C [] (wM_strips l _  hJ) ck_X8_252 iv_X8_strips rfl sm0 rfl rfl rfl rfl rfl rfl dX8_count_126 (fun r11 N12 hN12 => ?_)
    obtain ⟨rfl, hJ⟩ := hN12
    exact zq_iret C rfl ⟨_, rfl, hJ⟩ dX8_count_129
  have hJ := hJ.2 g7
  by_cases g8 : a1 = 8
  · have hJ := hJ.1 g8
    refine zq_tabIn (tgt := 130) C dX8_count_1 (by rw [g8]; decide) (by rw [g8]; decide) (by rw [g8]; rfl) rfl ?_
    refine zq_aload_n (i := 0) C dX8_count_130 rfl rfl ?_
    refine zq_iconst (x := 0) C dX8_count_131 rfl ik_0 ?_
    refine zq_aload_n (i := 0) C dX8_count_132 rfl rfl ?_
    refine zq_callVi C [] (wM_greatestEnd l _  hJ) ck_X8_111 iv_X8_greatestEnd rfl sm0 rfl rfl rfl rfl rfl rfl dX8_count_133 (fun r13 N14 hN14 => ?_)
    obtain ⟨rfl, hJ⟩ := hN14
    refine zq_callVi C [zi 0, zi r13] (wM_widthOf l _ _ _  hJ) ck_X8_115 iv_X8_widthOf rfl sm0 rfl rfl rfl rfl rfl rfl dX8_count_136 (fun r15 N16 hN16 => ?_)
    obtain ⟨rfl, hJ⟩ := hN16
    exact zq_iret C rfl ⟨_, rfl, hJ⟩ dX8_count_139
  have hJ := hJ.2 g8
  by_cases g9 : a1 = 9
  · have hJ := hJ.1 g9
    refine zq_tabIn (tgt := 140) C dX8_count_1 (by rw [g9]; decide) (by rw [g9]; decide) (by rw [g9]; rfl) rfl ?_
    refine zq_aload_n (i := 0) C dX8_count_140 rfl rfl ?_
    refine zq_callVi C [] (wM_critical l _  hJ) ck_X8_255 iv_X8_critical rfl sm0 rfl rfl rfl rfl rfl rfl dX8_count_141 (fun r17 M18 hJ => ?_)
    exact zq_iret C rfl ⟨_, rfl, hJ⟩ dX8_count_144
  have hJ := hJ.2 g9
  by_cases g10 : a1 = 10
  · have hJ := hJ.1 g10
    refine zq_tabIn (tgt := 145) C dX8_count_1 (by rw [g10]; decide) (by rw [g10]; decide) (by rw [g10]; rfl) rfl ?_
    refine zq_aload_n (i := 0) C dX8_count_145 rfl rfl ?_
    refine zq_getr C fk_X8_7 sm0 rfl dX8_count_146 ?_
    refine zq_sipush (x := 444) C dX8_count_149 si_444 ik_444 ?_
    refine zq_iald C sm1 (by decide) (by decide) dX8_count_152 ?_
    exact zq_iret C rfl ⟨_, rfl, hJ⟩ dX8_count_153
  have hJ := hJ.2 g10
  by_cases g11 : a1 = 11
  · have hJ := hJ.1 g11
    refine zq_tabIn (tgt := 154) C dX8_count_1 (by rw [g11]; decide) (by rw [g11]; decide) (by rw [g11]; rfl) rfl ?_
    refine zq_aload_n (i := 0) C dX8_count_154 rfl rfl ?_
    refine zq_getr C fk_X8_7 sm0 rfl dX8_count_155 ?_
    refine zq_sipush (x := 445) C dX8_count_158 si_445 ik_445 ?_
    refine zq_iald C sm1 (by decide) (by decide) dX8_count_161 ?_
    exact zq_iret C rfl ⟨_, rfl, hJ⟩ dX8_count_162
  have hJ := hJ.2 g11
  by_cases g12 : a1 = 12
  · have hJ := hJ.1 g12
    refine zq_tabIn (tgt := 163) C dX8_count_1 (by rw [g12]; decide) (by rw [g12]; decide) (by rw [g12]; rfl) rfl ?_
    refine zq_aload_n (i := 0) C dX8_count_163 rfl rfl ?_
    refine zq_getr C fk_X8_7 sm0 rfl dX8_count_164 ?_
    refine zq_sipush (x := 446) C dX8_count_167 si_446 ik_446 ?_
    refine zq_iald C sm1 (by decide) (by decide) dX8_count_170 ?_
    exact zq_iret C rfl ⟨_, rfl, hJ⟩ dX8_count_171
  have hJ := hJ.2 g12
  by_cases g13 : a1 = 13
  · have hJ := hJ.1 g13
    refine zq_tabIn (tgt := 172) C dX8_count_1 (by rw [g13]; decide) (by rw [g13]; decide) (by rw [g13]; rfl) rfl ?_
    refine zq_aload_n (i := 0) C dX8_count_172 rfl rfl ?_
    refine zq_get (kz := 3) C fk_X8_44 sm0 rfl dX8_count_173 rfl ?_
    exact zq_iret C rfl ⟨_, rfl, hJ⟩ dX8_count_176
  have hJ := hJ.2 g13
  by_cases g14 : a1 = 14
  · have hJ := hJ.1 g14
    refine zq_tabIn (tgt := 177) C dX8_count_1 (by rw [g14]; decide) (by rw [g14]; decide) (by rw [g14]; rfl) rfl ?_
    refine zq_aload_n (i := 0) C dX8_count_177 rfl rfl ?_
    refine zq_get (kz := 7) C fk_X8_203 sm0 rfl dX8_count_178 rfl ?_
    exact zq_iret C rfl ⟨_, rfl, hJ⟩ dX8_count_181
  have hJ := hJ.2 g14
  by_cases g15 : a1 = 15
  · have hJ := hJ.1 g15
    refine zq_tabIn (tgt := 182) C dX8_count_1 (by rw [g15]; decide) (by rw [g15]; decide) (by rw [g15]; rfl) rfl ?_
    refine zq_aload_n (i := 0) C dX8_count_182 rfl rfl ?_
    refine zq_getr C fk_X8_7 sm0 rfl dX8_count_183 ?_
    refine zq_sipush (x := 442) C dX8_count_186 si_442 ik_442 ?_
    refine zq_iload_n (i := 1) C dX8_count_189 rfl rfl ?_
    obtain ⟨h19, hJ⟩ := hJ
    refine zq_iadd C dX8_count_190 h19 ?_
    refine zq_bipush (x := 15) C dX8_count_191 bi_15 ik_15 ?_
    obtain ⟨h20, hJ⟩ := hJ
    refine zq_isub C dX8_count_193 h20 ?_
    obtain ⟨h21, h21', hJ⟩ := hJ
    refine zq_iald C sm1 h21 h21' dX8_count_194 ?_
    exact zq_iret C rfl ⟨_, rfl, hJ⟩ dX8_count_195
  have hJ := hJ.2 g15
  by_cases g16 : a1 = 16
  · have hJ := hJ.1 g16
    refine zq_tabIn (tgt := 182) C dX8_count_1 (by rw [g16]; decide) (by rw [g16]; decide) (by rw [g16]; rfl) rfl ?_
    refine zq_aload_n (i := 0) C dX8_count_182 rfl rfl ?_
    refine zq_getr C fk_X8_7 sm0 rfl dX8_count_183 ?_
    refine zq_sipush (x := 442) C dX8_count_186 si_442 ik_442 ?_
    refine zq_iload_n (i := 1) C dX8_count_189 rfl rfl ?_
    obtain ⟨h22, hJ⟩ := hJ
    refine zq_iadd C dX8_count_190 h22 ?_
    refine zq_bipush (x := 15) C dX8_count_191 bi_15 ik_15 ?_
    obtain ⟨h23, hJ⟩ := hJ
    refine zq_isub C dX8_count_193 h23 ?_
    obtain ⟨h24, h24', hJ⟩ := hJ
    refine zq_iald C sm1 h24 h24' dX8_count_194 ?_
    exact zq_iret C rfl ⟨_, rfl, hJ⟩ dX8_count_195
  have hJ := hJ.2 g16
  refine zq_tabOut (tgt := 196) C dX8_count_1 (zto17 g0 g1 g2 g3 g4 g5 g6 g7 g8 g9 g10 g11 g12 g13 g14 g15 g16) rfl ?_
  refine zq_bipush (x := (-2)) C dX8_count_196 bi_m2 ik_m2 ?_
  exact zq_iret C rfl ⟨_, rfl, hJ⟩ dX8_count_198
set_option maxRecDepth 100000 in
set_option maxHeartbeats 4000000 in
theorem wM_latest (l : Launch) (a1 : Int) (M : zM) {Φ : Int → zM → Prop} (hJ : jM_latest a1 M Φ) : zMet l yX8_latest cX8_latest 3 (some .int) 6 136 shM [zr 0, zi a1] M (zI Φ) := by
  refine zq_enter [some (zr 0), some (zi a1), none] (by decide) rfl (Nat.le_of_ble_eq_true rfl) rfl (fun X C => ?_)
  unfold jM_latest at hJ
  refine zq_aload_n (i := 0) C dX8_latest_0 rfl rfl ?_
  refine zq_iload_n (i := 1) C dX8_latest_1 rfl rfl ?_
  refine zq_callVi C [zi a1] (wM_find l _ _  hJ) ck_X8_52 iv_X8_find rfl sm0 rfl rfl rfl rfl rfl rfl dX8_latest_2 (fun r1 N2 hN2 => ?_)
  obtain ⟨rfl, hJ⟩ := hN2
  refine zq_istore_n (i := 2) (lv' := [some (zr 0), some (zi a1), some (zi r1)]) C dX8_latest_5 rfl (Nat.le_of_ble_eq_true rfl) rfl ?_
  refine zq_iload_n (i := 2) C dX8_latest_6 rfl rfl ?_
  refine zq_bipush (x := (-5)) C dX8_latest_7 bi_m5 ik_m5 ?_
  refine zq_icmp_ne (tgt := 14) C dX8_latest_9 rfl (fun h5 => ?_) (fun h5 => ?_)
  · have hJ := hJ.1 h5
    refine zq_aload_n (i := 0) C dX8_latest_14 rfl rfl ?_
    refine zq_callVv C [] (wM_layLatest l _  hJ) ck_X8_127 iv_X8_layLatest rfl sm0 rfl rfl rfl rfl rfl rfl dX8_latest_15 (fun M3 hJ => ?_)
    refine zq_aload_n (i := 0) C dX8_latest_18 rfl rfl ?_
    refine zq_getr C fk_X8_32 sm0 rfl dX8_latest_19 ?_
    refine zq_iload_n (i := 2) C dX8_latest_22 rfl rfl ?_
    obtain ⟨h4, h4', hJ⟩ := hJ
    refine zq_iald C sm8 h4 h4' dX8_latest_23 ?_
    exact zq_iret C rfl ⟨_, rfl, hJ⟩ dX8_latest_24
  · have hJ := hJ.2 h5
    refine zq_iconst (x := (-1)) C dX8_latest_12 rfl ik_m1 ?_
    exact zq_iret C rfl ⟨_, rfl, hJ⟩ dX8_latest_13
set_option maxRecDepth 100000 in
set_option maxHeartbeats 4000000 in
theorem wM_longest (l : Launch)  (M : zM) {Φ : Int → zM → Prop} (hJ : jM_longest  M Φ) : zMet l yX8_longest cX8_longest 6 (some .int) 5 110 shM [zr 0] M (zI Φ) := by
  refine zq_enter [some (zr 0), none, none, none, none, none] (by decide) rfl (Nat.le_of_ble_eq_true rfl) rfl (fun X C => ?_)
  unfold jM_longest at hJ
  have hl138 : ∀ (x1 : Int) (M : zM) (s : Int × Int), zwh (fun K s => jM_longest_L138  K Φ x1 M (s.1) (s.2)) s → zG X M 138 [some (zr 0), some (zi x1), some (zi (s.1)), some (zi (s.2)), none, none] [] := by
    intro x1 M
    refine zwh_sound ?_
    intro K138 s hK138 hJ
    obtain ⟨x2, x3⟩ := s
    have hJ : jM_longest_L138  K138 Φ x1 M x2 x3 := hJ
    show zG X M 138 [some (zr 0), some (zi x1), some (zi x2), some (zi x3), none, none] []
    unfold jM_longest_L138 at hJ
    refine zq_iload_n (i := 3) C dX8_longest_138 rfl rfl ?_
    refine zq_iload_n (i := 1) C dX8_longest_139 rfl rfl ?_
    refine zq_icmp_ge (tgt := 160) C dX8_longest_140 rfl (fun h7 => ?_) (fun h7 => ?_)
    · have hJ := hJ.1 h7
      refine zq_iload_n (i := 2) C dX8_longest_160 rfl rfl ?_
      exact zq_iret C rfl ⟨_, rfl, hJ⟩ dX8_longest_161
    · have hJ := hJ.2 h7
      refine zq_iload_n (i := 2) C dX8_longest_143 rfl rfl ?_
      refine zq_aload_n (i := 0) C dX8_longest_144 rfl rfl ?_
      refine zq_getr C fk_X8_38 sm0 rfl dX8_longest_145 ?_
      refine zq_iload_n (i := 3) C dX8_longest_148 rfl rfl ?_
      obtain ⟨h3, h3', hJ⟩ := hJ
      refine zq_iald C sm10 h3 h3' dX8_longest_149 ?_
      refine zq_callSi C [zi x2, zi (M 10 x3)] (wM_most l _ _ _  hJ) ck_X8_59 st_X8_most rfl rfl rfl rfl rfl rfl dX8_longest_150 (fun r4 N5 hN5 => ?_)
      obtain ⟨rfl, hJ⟩ := hN5
      refine zq_istore_n (i := 2) (lv' := [some (zr 0), some (zi x1), some (zi r4), some (zi x3), none, none]) C dX8_longest_153 rfl (Nat.le_of_ble_eq_true rfl) rfl ?_
      obtain ⟨hv3_6, hJ⟩ := hJ
      refine zq_iinc (y := x3 + 1) (lv' := [some (zr 0), some (zi x1), some (zi r4), some (zi (x3 + 1)), none, none]) C dX8_longest_154 rfl rfl hv3_6 rfl ?_
      obtain ⟨v3_6, ev3_6⟩ : ∃ z, z = x3 + 1 := ⟨_, rfl⟩
      rw [← ev3_6]
      have hJ := hJ v3_6 ev3_6
      refine zq_goto (tgt := 138) C dX8_longest_157 rfl ?_
      exact hK138 _ hJ
  have hl40 : ∀ (x1 x2 : Int) (s : Int × zM), zwh (fun K s => jM_longest_L40  K Φ x1 x2 (s.1) (s.2)) s → zG X (s.2) 40 [some (zr 0), some (zi x1), some (zi x2), some (zi (s.1)), none, none] [] := by
    intro x1 x2
    refine zwh_sound ?_
    intro K40 s hK40 hJ
    obtain ⟨x3, M⟩ := s
    have hJ : jM_longest_L40  K40 Φ x1 x2 x3 M := hJ
    show zG X M 40 [some (zr 0), some (zi x1), some (zi x2), some (zi x3), none, none] []
    unfold jM_longest_L40 at hJ
    have hl48 : ∀ (x3 : Int) (s : Int × zM), zwh (fun K s => jM_longest_L48 K40 K Φ x1 x2 x3 (s.1) (s.2)) s → zG X (s.2) 48 [some (zr 0), some (zi x1), some (zi x2), some (zi x3), some (zi (s.1)), none] [] := by
      intro x3
      refine zwh_sound ?_
      intro K48 s hK48 hJ
      obtain ⟨x4, M⟩ := s
      have hJ : jM_longest_L48 K40 K48 Φ x1 x2 x3 x4 M := hJ
      show zG X M 48 [some (zr 0), some (zi x1), some (zi x2), some (zi x3), some (zi x4), none] []
      unfold jM_longest_L48 at hJ
      have hj123 : ∀ (x4 s1 s2 : Int) (M : zM), jM_longest_J123 K40 K48 Φ x1 x2 x3 x4 s1 s2 M → zG X M 123 [some (zr 0), some (zi x1), some (zi x2), some (zi x3), some (zi x4), none] [zi s2, zi s1, zr 10] := by
        intro x4 s1 s2 M hJ
        unfold jM_longest_J123 at hJ
        obtain ⟨h17, h17', hJ⟩ := hJ
        refine zq_iast C sm10 h17 h17' dX8_longest_123 (fun M18 hM18 => ?_)
        have hJ := hJ M18 hM18
        obtain ⟨hv4_19, hJ⟩ := hJ
        refine zq_iinc (y := x4 + 1) (lv' := [some (zr 0), some (zi x1), some (zi x2), some (zi x3), some (zi (x4 + 1)), none]) C dX8_longest_124 rfl rfl hv4_19 rfl ?_
        obtain ⟨v4_19, ev4_19⟩ : ∃ z, z = x4 + 1 := ⟨_, rfl⟩
        rw [← ev4_19]
        have hJ := hJ v4_19 ev4_19
        refine zq_goto (tgt := 48) C dX8_longest_127 rfl ?_
        exact hK48 _ hJ
      refine zq_iload C dX8_longest_48 rfl ?_
      refine zq_iload_n (i := 1) C dX8_longest_50 rfl rfl ?_
      refine zq_iload_n (i := 1) C dX8_longest_51 rfl rfl ?_
      obtain ⟨h8, hJ⟩ := hJ
      refine zq_imul C dX8_longest_52 h8 ?_
      refine zq_icmp_ge (tgt := 130) C dX8_longest_53 rfl (fun h29 => ?_) (fun h29 => ?_)
      · have hJ := hJ.1 h29
        obtain ⟨hv3_9, hJ⟩ := hJ
        refine zq_iinc (y := x3 + 1) (lv' := [some (zr 0), some (zi x1), some (zi x2), some (zi (x3 + 1)), some (zi x4), none]) C dX8_longest_130 rfl rfl hv3_9 rfl ?_
        obtain ⟨v3_9, ev3_9⟩ : ∃ z, z = x3 + 1 := ⟨_, rfl⟩
        rw [← ev3_9]
        have hJ := hJ v3_9 ev3_9
        refine zq_goto (tgt := 40) C dX8_longest_133 rfl ?_
        refine zq_weak [some (zr 0), some (zi x1), some (zi x2), some (zi v3_9), none, none] ⟨Or.inr rfl, Or.inr rfl, Or.inr rfl, Or.inr rfl, Or.inl rfl, Or.inl rfl, trivial⟩ ?_
        exact hK40 _ hJ
      · have hJ := hJ.2 h29
        refine zq_iload C dX8_longest_56 rfl ?_
        refine zq_iload_n (i := 1) C dX8_longest_58 rfl rfl ?_
        obtain ⟨h10, h10', hJ⟩ := hJ
        refine zq_idiv C dX8_longest_59 h10 h10' ?_
        refine zq_istoreN C (fun v => [some (zr 0), some (zi x1), some (zi x2), some (zi x3), some (zi x4), some (zi v)]) dX8_longest_60 (Nat.le_of_ble_eq_true rfl) (fun _ => rfl) (fun v5_11 hv5_11 => ?_)
        have hJ := hJ v5_11 hv5_11
        refine zq_aload_n (i := 0) C dX8_longest_62 rfl rfl ?_
        refine zq_getr C fk_X8_38 sm0 rfl dX8_longest_63 ?_
        refine zq_iload C dX8_longest_66 rfl ?_
        refine zq_aload_n (i := 0) C dX8_longest_68 rfl rfl ?_
        refine zq_getr C fk_X8_28 sm0 rfl dX8_longest_69 ?_
        refine zq_bipush (x := 30) C dX8_longest_72 bi_30 ik_30 ?_
        refine zq_iload C dX8_longest_74 rfl ?_
        obtain ⟨h12, hJ⟩ := hJ
        refine zq_imul C dX8_longest_76 h12 ?_
        refine zq_iload C dX8_longest_77 rfl ?_
        refine zq_iload_n (i := 1) C dX8_longest_79 rfl rfl ?_
        obtain ⟨h13, h13', hJ⟩ := hJ
        refine zq_irem C dX8_longest_80 h13 h13' ?_
        obtain ⟨h14, hJ⟩ := hJ
        refine zq_iadd C dX8_longest_81 h14 ?_
        obtain ⟨h15, h15', hJ⟩ := hJ
        refine zq_zald C sm7 h15 h15' dX8_longest_82 ?_
        refine zq_if_eq (tgt := 116) C dX8_longest_83 rfl (fun h28 => ?_) (fun h28 => ?_)
        · have hJ := hJ.1 h28
          refine zq_aload_n (i := 0) C dX8_longest_116 rfl rfl ?_
          refine zq_getr C fk_X8_38 sm0 rfl dX8_longest_117 ?_
          refine zq_iload C dX8_longest_120 rfl ?_
          obtain ⟨h16, h16', hJ⟩ := hJ
          refine zq_iald C sm10 h16 h16' dX8_longest_122 ?_
          refine zq_weak [some (zr 0), some (zi x1), some (zi x2), some (zi x3), some (zi x4), none] ⟨Or.inr rfl, Or.inr rfl, Or.inr rfl, Or.inr rfl, Or.inr rfl, Or.inl rfl, trivial⟩ ?_
          exact hj123 _ _ _ _ hJ
        · have hJ := hJ.2 h28
          refine zq_aload_n (i := 0) C dX8_longest_86 rfl rfl ?_
          refine zq_getr C fk_X8_38 sm0 rfl dX8_longest_87 ?_
          refine zq_iload C dX8_longest_90 rfl ?_
          obtain ⟨h20, h20', hJ⟩ := hJ
          refine zq_iald C sm10 h20 h20' dX8_longest_92 ?_
          refine zq_aload_n (i := 0) C dX8_longest_93 rfl rfl ?_
          refine zq_iload C dX8_longest_94 rfl ?_
          refine zq_iconst (x := 3) C dX8_longest_96 rfl ik_3 ?_
          refine zq_callVi C [zi v5_11, zi 3] (wM_of l _ _ _  hJ) ck_X8_48 iv_X8_of rfl sm0 rfl rfl rfl rfl rfl rfl dX8_longest_97 (fun r21 N22 hN22 => ?_)
          obtain ⟨rfl, hJ⟩ := hN22
          refine zq_aload_n (i := 0) C dX8_longest_100 rfl rfl ?_
          refine zq_getr C fk_X8_38 sm0 rfl dX8_longest_101 ?_
          refine zq_iload C dX8_longest_104 rfl ?_
          refine zq_iload_n (i := 1) C dX8_longest_106 rfl rfl ?_
          obtain ⟨h23, h23', hJ⟩ := hJ
          refine zq_irem C dX8_longest_107 h23 h23' ?_
          obtain ⟨h24, h24', hJ⟩ := hJ
          refine zq_iald C sm10 h24 h24' dX8_longest_108 ?_
          obtain ⟨h25, hJ⟩ := hJ
          refine zq_iadd C dX8_longest_109 h25 ?_
          refine zq_callSi C [zi (M 10 v5_11), zi (r21 + (M 10 (x4 % x1)))] (wM_most l _ _ _  hJ) ck_X8_59 st_X8_most rfl rfl rfl rfl rfl rfl dX8_longest_110 (fun r26 N27 hN27 => ?_)
          obtain ⟨rfl, hJ⟩ := hN27
          refine zq_goto (tgt := 123) C dX8_longest_113 rfl ?_
          refine zq_weak [some (zr 0), some (zi x1), some (zi x2), some (zi x3), some (zi x4), none] ⟨Or.inr rfl, Or.inr rfl, Or.inr rfl, Or.inr rfl, Or.inr rfl, Or.inl rfl, trivial⟩ ?_
          exact hj123 _ _ _ _ hJ
    refine zq_iload_n (i := 3) C dX8_longest_40 rfl rfl ?_
    refine zq_iload_n (i := 1) C dX8_longest_41 rfl rfl ?_
    refine zq_icmp_ge (tgt := 136) C dX8_longest_42 rfl (fun h30 => ?_) (fun h30 => ?_)
    · have hJ := hJ.1 h30
      refine zq_iconst (x := 0) C dX8_longest_136 rfl ik_0 ?_
      refine zq_istore_n (i := 3) (lv' := [some (zr 0), some (zi x1), some (zi x2), some (zi 0), none, none]) C dX8_longest_137 rfl (Nat.le_of_ble_eq_true rfl) rfl ?_
      exact hl138 _ _ _ hJ
    · have hJ := hJ.2 h30
      refine zq_iconst (x := 0) C dX8_longest_45 rfl ik_0 ?_
      refine zq_istore (lv' := [some (zr 0), some (zi x1), some (zi x2), some (zi x3), some (zi 0), none]) C dX8_longest_46 (Nat.le_of_ble_eq_true rfl) rfl ?_
      exact hl48 _ _ hJ
  have hl15 : ∀ (x1 x2 : Int) (s : Int × zM), zwh (fun K s => jM_longest_L15  K Φ x1 x2 (s.1) (s.2)) s → zG X (s.2) 15 [some (zr 0), some (zi x1), some (zi x2), some (zi (s.1)), none, none] [] := by
    intro x1 x2
    refine zwh_sound ?_
    intro K15 s hK15 hJ
    obtain ⟨x3, M⟩ := s
    have hJ : jM_longest_L15  K15 Φ x1 x2 x3 M := hJ
    show zG X M 15 [some (zr 0), some (zi x1), some (zi x2), some (zi x3), none, none] []
    unfold jM_longest_L15 at hJ
    refine zq_iload_n (i := 3) C dX8_longest_15 rfl rfl ?_
    refine zq_iload_n (i := 1) C dX8_longest_16 rfl rfl ?_
    refine zq_icmp_ge (tgt := 38) C dX8_longest_17 rfl (fun h36 => ?_) (fun h36 => ?_)
    · have hJ := hJ.1 h36
      refine zq_iconst (x := 0) C dX8_longest_38 rfl ik_0 ?_
      refine zq_istore_n (i := 3) (lv' := [some (zr 0), some (zi x1), some (zi x2), some (zi 0), none, none]) C dX8_longest_39 rfl (Nat.le_of_ble_eq_true rfl) rfl ?_
      exact hl40 _ _ _ hJ
    · have hJ := hJ.2 h36
      refine zq_aload_n (i := 0) C dX8_longest_20 rfl rfl ?_
      refine zq_getr C fk_X8_38 sm0 rfl dX8_longest_21 ?_
      refine zq_iload_n (i := 3) C dX8_longest_24 rfl rfl ?_
      refine zq_aload_n (i := 0) C dX8_longest_25 rfl rfl ?_
      refine zq_iload_n (i := 3) C dX8_longest_26 rfl rfl ?_
      refine zq_iconst (x := 3) C dX8_longest_27 rfl ik_3 ?_
      refine zq_callVi C [zi x3, zi 3] (wM_of l _ _ _  hJ) ck_X8_48 iv_X8_of rfl sm0 rfl rfl rfl rfl rfl rfl dX8_longest_28 (fun r31 N32 hN32 => ?_)
      obtain ⟨rfl, hJ⟩ := hN32
      obtain ⟨h33, h33', hJ⟩ := hJ
      refine zq_iast C sm10 h33 h33' dX8_longest_31 (fun M34 hM34 => ?_)
      have hJ := hJ M34 hM34
      obtain ⟨hv3_35, hJ⟩ := hJ
      refine zq_iinc (y := x3 + 1) (lv' := [some (zr 0), some (zi x1), some (zi x2), some (zi (x3 + 1)), none, none]) C dX8_longest_32 rfl rfl hv3_35 rfl ?_
      obtain ⟨v3_35, ev3_35⟩ : ∃ z, z = x3 + 1 := ⟨_, rfl⟩
      rw [← ev3_35]
      have hJ := hJ v3_35 ev3_35
      refine zq_goto (tgt := 15) C dX8_longest_35 rfl ?_
      exact hK15 _ hJ
  refine zq_aload_n (i := 0) C dX8_longest_0 rfl rfl ?_
  refine zq_callVv C [] (wM_layPushes l _  hJ) ck_X8_124 iv_X8_layPushes rfl sm0 rfl rfl rfl rfl rfl rfl dX8_longest_1 (fun M1 hJ => ?_)
  refine zq_aload_n (i := 0) C dX8_longest_4 rfl rfl ?_
  refine zq_getr C fk_X8_7 sm0 rfl dX8_longest_5 ?_
  refine zq_iconst (x := 0) C dX8_longest_8 rfl ik_0 ?_
  refine zq_iald C sm1 (by decide) (by decide) dX8_longest_9 ?_
  refine zq_istoreN_n (i := 1) C (fun v => [some (zr 0), some (zi v), none, none, none, none]) dX8_longest_10 rfl (Nat.le_of_ble_eq_true rfl) (fun _ => rfl) (fun v1_2 hv1_2 => ?_)
  have hJ := hJ v1_2 hv1_2
  refine zq_iconst (x := 0) C dX8_longest_11 rfl ik_0 ?_
  refine zq_istore_n (i := 2) (lv' := [some (zr 0), some (zi v1_2), some (zi 0), none, none, none]) C dX8_longest_12 rfl (Nat.le_of_ble_eq_true rfl) rfl ?_
  refine zq_iconst (x := 0) C dX8_longest_13 rfl ik_0 ?_
  refine zq_istore_n (i := 3) (lv' := [some (zr 0), some (zi v1_2), some (zi 0), some (zi 0), none, none]) C dX8_longest_14 rfl (Nat.le_of_ble_eq_true rfl) rfl ?_
  exact hl15 _ _ _ hJ
