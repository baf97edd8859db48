set_option maxRecDepth 100000 in
set_option maxHeartbeats 4000000 in
theorem wM_isLane (l : Launch) (a1 : Int) (M : zM) {Φ : Int → Prop} (hJ : jM_isLane a1 M Φ) : zMet l yX8_isLane cX8_isLane 1 (some .boolean) 1 22 shM [zi a1] M (zI (fun z M' => M = M' ∧ Φ z)) := by
  refine zq_enter [some (zi a1)] (by decide) rfl (Nat.le_of_ble_eq_true rfl) rfl (fun X C => ?_)
  unfold jM_isLane at hJ
  refine zq_iload_n (i := 0) C dX8_isLane_0 rfl rfl ?_
  refine zq_iconst (x := 0) C dX8_isLane_1 rfl ik_0 ?_
  refine zq_bipush (x := 11) C dX8_isLane_2 bi_11 ik_11 ?_
  refine zq_callSi C [zi a1, zi 0, zi 11] (wM_in l _ _ _ _  hJ) ck_X8_79 st_X8_in rfl rfl rfl rfl rfl rfl dX8_isLane_4 (fun r1 N2 hN2 => ?_)
  obtain ⟨rfl, hJ⟩ := hN2
  obtain ⟨h3, hJ⟩ := hJ
  exact zq_zret C rfl h3 ⟨_, rfl, rfl, hJ⟩ dX8_isLane_7
set_option maxRecDepth 100000 in
set_option maxHeartbeats 4000000 in
theorem wM_addsBar (l : Launch) (a1 a2 a3 : Int) (M : zM) {Φ : Int → zM → Prop} (hJ : jM_addsBar a1 a2 a3 M Φ) : zMet l yX8_addsBar cX8_addsBar 5 (some .int) 3 68 shM [zr 0, zi a1, zi a2, zi a3] M (zI Φ) := by
  refine zq_enter [some (zr 0), some (zi a1), some (zi a2), some (zi a3), none] (by decide) rfl (Nat.le_of_ble_eq_true rfl) rfl (fun X C => ?_)
  unfold jM_addsBar at hJ
  refine zq_iload_n (i := 1) C dX8_addsBar_0 rfl rfl ?_
  refine zq_callSi C [zi a1] (wM_isLane l _ _  hJ) ck_X8_130 st_X8_isLane rfl rfl rfl rfl rfl rfl dX8_addsBar_1 (fun r1 N2 hN2 => ?_)
  obtain ⟨rfl, hJ⟩ := hN2
  refine zq_if_ne (tgt := 9) C dX8_addsBar_4 rfl (fun h37 => ?_) (fun h37 => ?_)
  · have hJ := hJ.1 h37
    refine zq_iload_n (i := 2) C dX8_addsBar_9 rfl rfl ?_
    refine zq_iconst (x := 0) C dX8_addsBar_10 rfl ik_0 ?_
    refine zq_sipush (x := 199) C dX8_addsBar_11 si_199 ik_199 ?_
    refine zq_callSi C [zi a2, zi 0, zi 199] (wM_in l _ _ _ _  hJ) ck_X8_79 st_X8_in rfl rfl rfl rfl rfl rfl dX8_addsBar_14 (fun r3 N4 hN4 => ?_)
    obtain ⟨rfl, hJ⟩ := hN4
    refine zq_if_eq (tgt := 39) C dX8_addsBar_17 rfl (fun h36 => ?_) (fun h36 => ?_)
    · have hJ := hJ.1 h36
      refine zq_bipush (x := (-2)) C dX8_addsBar_39 bi_m2 ik_m2 ?_
      exact zq_iret C rfl ⟨_, rfl, hJ⟩ dX8_addsBar_41
    · have hJ := hJ.2 h36
      refine zq_iload_n (i := 3) C dX8_addsBar_20 rfl rfl ?_
      refine zq_iconst (x := 1) C dX8_addsBar_21 rfl ik_1 ?_
      refine zq_bipush (x := 30) C dX8_addsBar_22 bi_30 ik_30 ?_
      refine zq_callSi C [zi a3, zi 1, zi 30] (wM_in l _ _ _ _  hJ) ck_X8_79 st_X8_in rfl rfl rfl rfl rfl rfl dX8_addsBar_24 (fun r5 N6 hN6 => ?_)
      obtain ⟨rfl, hJ⟩ := hN6
      refine zq_if_eq (tgt := 39) C dX8_addsBar_27 rfl (fun h35 => ?_) (fun h35 => ?_)
      · have hJ := hJ.1 h35
        refine zq_bipush (x := (-2)) C dX8_addsBar_39 bi_m2 ik_m2 ?_
        exact zq_iret C rfl ⟨_, rfl, hJ⟩ dX8_addsBar_41
      · have hJ := hJ.2 h35
        refine zq_iload_n (i := 2) C dX8_addsBar_30 rfl rfl ?_
        refine zq_iload_n (i := 3) C dX8_addsBar_31 rfl rfl ?_
        obtain ⟨h7, hJ⟩ := hJ
        refine zq_iadd C dX8_addsBar_32 h7 ?_
        refine zq_sipush (x := 200) C dX8_addsBar_33 si_200 ik_200 ?_
        refine zq_icmp_le (tgt := 42) C dX8_addsBar_36 rfl (fun h34 => ?_) (fun h34 => ?_)
        · have hJ := hJ.1 h34
          refine zq_aload_n (i := 0) C dX8_addsBar_42 rfl rfl ?_
          refine zq_iload_n (i := 1) C dX8_addsBar_43 rfl rfl ?_
          refine zq_iload_n (i := 2) C dX8_addsBar_44 rfl rfl ?_
          refine zq_iload_n (i := 2) C dX8_addsBar_45 rfl rfl ?_
          refine zq_iload_n (i := 3) C dX8_addsBar_46 rfl rfl ?_
          obtain ⟨h8, hJ⟩ := hJ
          refine zq_iadd C dX8_addsBar_47 h8 ?_
          refine zq_iconst (x := 1) C dX8_addsBar_48 rfl ik_1 ?_
          obtain ⟨h9, hJ⟩ := hJ
          refine zq_isub C dX8_addsBar_49 h9 ?_
          refine zq_bipush (x := (-5)) C dX8_addsBar_50 bi_m5 ik_m5 ?_
          refine zq_callVi C [zi a1, zi a2, zi ((a2 + a3) - 1), zi (-5)] (wM_within l _ _ _ _ _  hJ) ck_X8_62 iv_X8_within rfl sm0 rfl rfl rfl rfl rfl rfl dX8_addsBar_52 (fun r10 N11 hN11 => ?_)
          obtain ⟨rfl, hJ⟩ := hN11
          refine zq_bipush (x := (-5)) C dX8_addsBar_55 bi_m5 ik_m5 ?_
          refine zq_icmp_eq (tgt := 63) C dX8_addsBar_57 rfl (fun h33 => ?_) (fun h33 => ?_)
          · have hJ := hJ.1 h33
            refine zq_aload_n (i := 0) C dX8_addsBar_63 rfl rfl ?_
            refine zq_getr C fk_X8_7 sm0 rfl dX8_addsBar_64 ?_
            refine zq_iconst (x := 0) C dX8_addsBar_67 rfl ik_0 ?_
            refine zq_iald C sm1 (by decide) (by decide) dX8_addsBar_68 ?_
            refine zq_bipush (x := 30) C dX8_addsBar_69 bi_30 ik_30 ?_
            refine zq_icmp_eq (tgt := 87) C dX8_addsBar_71 rfl (fun h32 => ?_) (fun h32 => ?_)
            · have hJ := hJ.1 h32
              refine zq_bipush (x := (-3)) C dX8_addsBar_87 bi_m3 ik_m3 ?_
              exact zq_iret C rfl ⟨_, rfl, hJ⟩ dX8_addsBar_89
            · have hJ := hJ.2 h32
              refine zq_aload_n (i := 0) C dX8_addsBar_74 rfl rfl ?_
              refine zq_getr C fk_X8_7 sm0 rfl dX8_addsBar_75 ?_
              refine zq_sipush (x := 444) C dX8_addsBar_78 si_444 ik_444 ?_
              refine zq_iald C sm1 (by decide) (by decide) dX8_addsBar_81 ?_
              refine zq_bipush (x := 90) C dX8_addsBar_82 bi_90 ik_90 ?_
              refine zq_icmp_ne (tgt := 90) C dX8_addsBar_84 rfl (fun h31 => ?_) (fun h31 => ?_)
              · have hJ := hJ.1 h31
                refine zq_iconst (x := 1) C dX8_addsBar_90 rfl ik_1 ?_
                refine zq_iconst (x := 4) C dX8_addsBar_91 rfl ik_4 ?_
                refine zq_aload_n (i := 0) C dX8_addsBar_92 rfl rfl ?_
                refine zq_getr C fk_X8_7 sm0 rfl dX8_addsBar_93 ?_
                refine zq_iconst (x := 0) C dX8_addsBar_96 rfl ik_0 ?_
                refine zq_iald C sm1 (by decide) (by decide) dX8_addsBar_97 ?_
                obtain ⟨h12, hJ⟩ := hJ
                refine zq_imul C dX8_addsBar_98 h12 ?_
                obtain ⟨h13, hJ⟩ := hJ
                refine zq_iadd C dX8_addsBar_99 h13 ?_
                refine zq_istoreN C (fun v => [some (zr 0), some (zi a1), some (zi a2), some (zi a3), some (zi v)]) dX8_addsBar_100 (Nat.le_of_ble_eq_true rfl) (fun _ => rfl) (fun v4_14 hv4_14 => ?_)
                have hJ := hJ v4_14 hv4_14
                refine zq_aload_n (i := 0) C dX8_addsBar_102 rfl rfl ?_
                refine zq_getr C fk_X8_7 sm0 rfl dX8_addsBar_103 ?_
                refine zq_iload C dX8_addsBar_106 rfl ?_
                refine zq_aload_n (i := 0) C dX8_addsBar_108 rfl rfl ?_
                refine zq_getr C fk_X8_7 sm0 rfl dX8_addsBar_109 ?_
                refine zq_sipush (x := 444) C dX8_addsBar_112 si_444 ik_444 ?_
                refine zq_iald C sm1 (by decide) (by decide) dX8_addsBar_115 ?_
                obtain ⟨h15, h15', hJ⟩ := hJ
                refine zq_iast C sm1 h15 h15' dX8_addsBar_116 (fun M16 hM16 => ?_)
                have hJ := hJ M16 hM16
                refine zq_aload_n (i := 0) C dX8_addsBar_117 rfl rfl ?_
                refine zq_getr C fk_X8_7 sm0 rfl dX8_addsBar_118 ?_
                refine zq_iload C dX8_addsBar_121 rfl ?_
                refine zq_iconst (x := 1) C dX8_addsBar_123 rfl ik_1 ?_
                obtain ⟨h17, hJ⟩ := hJ
                refine zq_iadd C dX8_addsBar_124 h17 ?_
                refine zq_iload_n (i := 1) C dX8_addsBar_125 rfl rfl ?_
                obtain ⟨h18, h18', hJ⟩ := hJ
                refine zq_iast C sm1 h18 h18' dX8_addsBar_126 (fun M19 hM19 => ?_)
                have hJ := hJ M19 hM19
                refine zq_aload_n (i := 0) C dX8_addsBar_127 rfl rfl ?_
                refine zq_getr C fk_X8_7 sm0 rfl dX8_addsBar_128 ?_
                refine zq_iload C dX8_addsBar_131 rfl ?_
                refine zq_iconst (x := 2) C dX8_addsBar_133 rfl ik_2 ?_
                obtain ⟨h20, hJ⟩ := hJ
                refine zq_iadd C dX8_addsBar_134 h20 ?_
                refine zq_iload_n (i := 2) C dX8_addsBar_135 rfl rfl ?_
                obtain ⟨h21, h21', hJ⟩ := hJ
                refine zq_iast C sm1 h21 h21' dX8_addsBar_136 (fun M22 hM22 => ?_)
                have hJ := hJ M22 hM22
                refine zq_aload_n (i := 0) C dX8_addsBar_137 rfl rfl ?_
                refine zq_getr C fk_X8_7 sm0 rfl dX8_addsBar_138 ?_
                refine zq_iload C dX8_addsBar_141 rfl ?_
                refine zq_iconst (x := 3) C dX8_addsBar_143 rfl ik_3 ?_
                obtain ⟨h23, hJ⟩ := hJ
                refine zq_iadd C dX8_addsBar_144 h23 ?_
                refine zq_iload_n (i := 3) C dX8_addsBar_145 rfl rfl ?_
                obtain ⟨h24, h24', hJ⟩ := hJ
                refine zq_iast C sm1 h24 h24' dX8_addsBar_146 (fun M25 hM25 => ?_)
                have hJ := hJ M25 hM25
                refine zq_aload_n (i := 0) C dX8_addsBar_147 rfl rfl ?_
                refine zq_getr C fk_X8_7 sm0 rfl dX8_addsBar_148 ?_
                refine zq_iconst (x := 0) C dX8_addsBar_151 rfl ik_0 ?_
                refine zq_dup2 C dX8_addsBar_152 rfl rfl ?_
                refine zq_iald C sm1 (by decide) (by decide) dX8_addsBar_153 ?_
                refine zq_iconst (x := 1) C dX8_addsBar_154 rfl ik_1 ?_
                obtain ⟨h26, hJ⟩ := hJ
                refine zq_iadd C dX8_addsBar_155 h26 ?_
                refine zq_iast C sm1 (by decide) (by decide) dX8_addsBar_156 (fun M27 hM27 => ?_)
                have hJ := hJ M27 hM27
                refine zq_aload_n (i := 0) C dX8_addsBar_157 rfl rfl ?_
                refine zq_getr C fk_X8_7 sm0 rfl dX8_addsBar_158 ?_
                refine zq_sipush (x := 444) C dX8_addsBar_161 si_444 ik_444 ?_
                refine zq_dup2 C dX8_addsBar_164 rfl rfl ?_
                refine zq_iald C sm1 (by decide) (by decide) dX8_addsBar_165 ?_
                refine zq_iconst (x := 1) C dX8_addsBar_166 rfl ik_1 ?_
                obtain ⟨h28, hJ⟩ := hJ
                refine zq_iadd C dX8_addsBar_167 h28 ?_
                refine zq_iast C sm1 (by decide) (by decide) dX8_addsBar_168 (fun M29 hM29 => ?_)
                have hJ := hJ M29 hM29
                refine zq_aload_n (i := 0) C dX8_addsBar_169 rfl rfl ?_
                refine zq_getr C fk_X8_7 sm0 rfl dX8_addsBar_170 ?_
                refine zq_sipush (x := 444) C dX8_addsBar_173 si_444 ik_444 ?_
                refine zq_iald C sm1 (by decide) (by decide) dX8_addsBar_176 ?_
                refine zq_iconst (x := 1) C dX8_addsBar_177 rfl ik_1 ?_
                obtain ⟨h30, hJ⟩ := hJ
                refine zq_isub C dX8_addsBar_178 h30 ?_
                exact zq_iret C rfl ⟨_, rfl, hJ⟩ dX8_addsBar_179
              · have hJ := hJ.2 h31
                refine zq_bipush (x := (-3)) C dX8_addsBar_87 bi_m3 ik_m3 ?_
                exact zq_iret C rfl ⟨_, rfl, hJ⟩ dX8_addsBar_89
          · have hJ := hJ.2 h33
            refine zq_bipush (x := (-4)) C dX8_addsBar_60 bi_m4 ik_m4 ?_
            exact zq_iret C rfl ⟨_, rfl, hJ⟩ dX8_addsBar_62
        · have hJ := hJ.2 h34
          refine zq_bipush (x := (-2)) C dX8_addsBar_39 bi_m2 ik_m2 ?_
          exact zq_iret C rfl ⟨_, rfl, hJ⟩ dX8_addsBar_41
  · have hJ := hJ.2 h37
    refine zq_iconst (x := (-1)) C dX8_addsBar_7 rfl ik_m1 ?_
    exact zq_iret C rfl ⟨_, rfl, hJ⟩ dX8_addsBar_8
set_option maxRecDepth 100000 in
set_option maxHeartbeats 4000000 in
theorem wM_leads (l : Launch) (a1 a2 : Int) (M : zM) {Φ : Int → zM → Prop} (hJ : jM_leads a1 a2 M Φ) : zMet l yX8_leads cX8_leads 5 (some .boolean) 3 65 shM [zr 0, zi a1, zi a2] M (zI Φ) := by
  refine zq_enter [some (zr 0), some (zi a1), some (zi a2), none, none] (by decide) rfl (Nat.le_of_ble_eq_true rfl) rfl (fun X C => ?_)
  unfold jM_leads at hJ
  have hl36 : ∀ (s : Int × zM), zwh (fun K s => jM_leads_L36 a1 a2 K Φ (s.1) (s.2)) s → zG X (s.2) 36 [some (zr 0), some (zi a1), some (zi a2), some (zi (s.1)), none] [] := by
    refine zwh_sound ?_
    intro K36 s hK36 hJ
    obtain ⟨x3, M⟩ := s
    have hJ : jM_leads_L36 a1 a2 K36 Φ x3 M := hJ
    show zG X M 36 [some (zr 0), some (zi a1), some (zi a2), some (zi x3), none] []
    unfold jM_leads_L36 at hJ
    have hl49 : ∀ (x3 : Int) (s : Int × zM), zwh (fun K s => jM_leads_L49 a1 a2 K36 K Φ x3 (s.1) (s.2)) s → zG X (s.2) 49 [some (zr 0), some (zi a1), some (zi a2), some (zi x3), some (zi (s.1))] [] := by
      intro x3
      refine zwh_sound ?_
      intro K49 s hK49 hJ
      obtain ⟨x4, M⟩ := s
      have hJ : jM_leads_L49 a1 a2 K36 K49 Φ x3 x4 M := hJ
      show zG X M 49 [some (zr 0), some (zi a1), some (zi a2), some (zi x3), some (zi x4)] []
      unfold jM_leads_L49 at hJ
      have hj104 : ∀ (x4 s1 s2 : Int) (M : zM), jM_leads_J104 a1 a2 K36 K49 Φ x3 x4 s1 s2 M → zG X M 104 [some (zr 0), some (zi a1), some (zi a2), some (zi x3), some (zi x4)] [zi s2, zi s1, zr 9] := by
        intro x4 s1 s2 M hJ
        unfold jM_leads_J104 at hJ
        obtain ⟨h9, h9', hJ⟩ := hJ
        obtain ⟨h10, hJ⟩ := hJ
        refine zq_zast C sm9 h9 h9' h10 dX8_leads_104 (fun M11 hM11 => ?_)
        have hJ := hJ M11 hM11
        obtain ⟨hv4_12, hJ⟩ := hJ
        refine zq_iinc (y := x4 + 1) (lv' := [some (zr 0), some (zi a1), some (zi a2), some (zi x3), some (zi (x4 + 1))]) C dX8_leads_105 rfl rfl hv4_12 rfl ?_
        obtain ⟨v4_12, ev4_12⟩ : ∃ z, z = x4 + 1 := ⟨_, rfl⟩
        rw [← ev4_12]
        have hJ := hJ v4_12 ev4_12
        refine zq_goto (tgt := 49) C dX8_leads_108 rfl ?_
        exact hK49 _ hJ
      have hj99 : ∀ (x4 s1 : Int) (M : zM), jM_leads_J99 a1 a2 K36 K49 Φ x3 x4 s1 M → zG X M 99 [some (zr 0), some (zi a1), some (zi a2), some (zi x3), some (zi x4)] [zi s1, zr 9] := by
        intro x4 s1 M hJ
        unfold jM_leads_J99 at hJ
        refine zq_iconst (x := 1) C dX8_leads_99 rfl ik_1 ?_
        refine zq_goto (tgt := 104) C dX8_leads_100 rfl ?_
        exact hj104 _ _ _ _ hJ
      refine zq_iload C dX8_leads_49 rfl ?_
      refine zq_aload_n (i := 0) C dX8_leads_51 rfl rfl ?_
      refine zq_getr C fk_X8_7 sm0 rfl dX8_leads_52 ?_
      refine zq_bipush (x := 121) C dX8_leads_55 bi_121 ik_121 ?_
      refine zq_iald C sm1 (by decide) (by decide) dX8_leads_57 ?_
      refine zq_icmp_ge (tgt := 111) C dX8_leads_58 rfl (fun h18 => ?_) (fun h18 => ?_)
      · have hJ := hJ.1 h18
        obtain ⟨hv3_3, hJ⟩ := hJ
        refine zq_iinc (y := x3 + 1) (lv' := [some (zr 0), some (zi a1), some (zi a2), some (zi (x3 + 1)), some (zi x4)]) C dX8_leads_111 rfl rfl hv3_3 rfl ?_
        obtain ⟨v3_3, ev3_3⟩ : ∃ z, z = x3 + 1 := ⟨_, rfl⟩
        rw [← ev3_3]
        have hJ := hJ v3_3 ev3_3
        refine zq_goto (tgt := 36) C dX8_leads_114 rfl ?_
        refine zq_weak [some (zr 0), some (zi a1), some (zi a2), some (zi v3_3), none] ⟨Or.inr rfl, Or.inr rfl, Or.inr rfl, Or.inr rfl, Or.inl rfl, trivial⟩ ?_
        exact hK36 _ hJ
      · have hJ := hJ.2 h18
        refine zq_aload_n (i := 0) C dX8_leads_61 rfl rfl ?_
        refine zq_getr C fk_X8_35 sm0 rfl dX8_leads_62 ?_
        refine zq_aload_n (i := 0) C dX8_leads_65 rfl rfl ?_
        refine zq_iload C dX8_leads_66 rfl ?_
        refine zq_callVi C [zi x4] (wM_to l _ _  hJ) ck_X8_73 iv_X8_to rfl sm0 rfl rfl rfl rfl rfl rfl dX8_leads_68 (fun r4 N5 hN5 => ?_)
        obtain ⟨rfl, hJ⟩ := hN5
        refine zq_aload_n (i := 0) C dX8_leads_71 rfl rfl ?_
        refine zq_getr C fk_X8_35 sm0 rfl dX8_leads_72 ?_
        refine zq_aload_n (i := 0) C dX8_leads_75 rfl rfl ?_
        refine zq_iload C dX8_leads_76 rfl ?_
        refine zq_callVi C [zi x4] (wM_to l _ _  hJ) ck_X8_73 iv_X8_to rfl sm0 rfl rfl rfl rfl rfl rfl dX8_leads_78 (fun r6 N7 hN7 => ?_)
        obtain ⟨rfl, hJ⟩ := hN7
        obtain ⟨h8, h8', hJ⟩ := hJ
        refine zq_zald C sm9 h8 h8' dX8_leads_81 ?_
        refine zq_if_ne (tgt := 99) C dX8_leads_82 rfl (fun h17 => ?_) (fun h17 => ?_)
        · have hJ := hJ.1 h17
          exact hj99 _ _ _ hJ
        · have hJ := hJ.2 h17
          refine zq_aload_n (i := 0) C dX8_leads_85 rfl rfl ?_
          refine zq_getr C fk_X8_35 sm0 rfl dX8_leads_86 ?_
          refine zq_aload_n (i := 0) C dX8_leads_89 rfl rfl ?_
          refine zq_iload C dX8_leads_90 rfl ?_
          refine zq_callVi C [zi x4] (wM_from l _ _  hJ) ck_X8_70 iv_X8_from rfl sm0 rfl rfl rfl rfl rfl rfl dX8_leads_92 (fun r13 N14 hN14 => ?_)
          obtain ⟨rfl, hJ⟩ := hN14
          obtain ⟨h15, h15', hJ⟩ := hJ
          refine zq_zald C sm9 h15 h15' dX8_leads_95 ?_
          refine zq_if_eq (tgt := 103) C dX8_leads_96 rfl (fun h16 => ?_) (fun h16 => ?_)
          · have hJ := hJ.1 h16
            refine zq_iconst (x := 0) C dX8_leads_103 rfl ik_0 ?_
            exact hj104 _ _ _ _ hJ
          · have hJ := hJ.2 h16
            exact hj99 _ _ _ hJ
    refine zq_iload_n (i := 3) C dX8_leads_36 rfl rfl ?_
    refine zq_aload_n (i := 0) C dX8_leads_37 rfl rfl ?_
    refine zq_getr C fk_X8_7 sm0 rfl dX8_leads_38 ?_
    refine zq_iconst (x := 0) C dX8_leads_41 rfl ik_0 ?_
    refine zq_iald C sm1 (by decide) (by decide) dX8_leads_42 ?_
    refine zq_icmp_ge (tgt := 117) C dX8_leads_43 rfl (fun h19 => ?_) (fun h19 => ?_)
    · have hJ := hJ.1 h19
      refine zq_aload_n (i := 0) C dX8_leads_117 rfl rfl ?_
      refine zq_getr C fk_X8_35 sm0 rfl dX8_leads_118 ?_
      refine zq_iload_n (i := 2) C dX8_leads_121 rfl rfl ?_
      obtain ⟨h1, h1', hJ⟩ := hJ
      refine zq_zald C sm9 h1 h1' dX8_leads_122 ?_
      obtain ⟨h2, hJ⟩ := hJ
      exact zq_zret C rfl h2 ⟨_, rfl, hJ⟩ dX8_leads_123
    · have hJ := hJ.2 h19
      refine zq_iconst (x := 0) C dX8_leads_46 rfl ik_0 ?_
      refine zq_istore (lv' := [some (zr 0), some (zi a1), some (zi a2), some (zi x3), some (zi 0)]) C dX8_leads_47 (Nat.le_of_ble_eq_true rfl) rfl ?_
      exact hl49 _ _ hJ
  have hl2 : ∀ (s : Int × zM), zwh (fun K s => jM_leads_L2 a1 a2 K Φ (s.1) (s.2)) s → zG X (s.2) 2 [some (zr 0), some (zi a1), some (zi a2), some (zi (s.1)), none] [] := by
    refine zwh_sound ?_
    intro K2 s hK2 hJ
    obtain ⟨x3, M⟩ := s
    have hJ : jM_leads_L2 a1 a2 K2 Φ x3 M := hJ
    show zG X M 2 [some (zr 0), some (zi a1), some (zi a2), some (zi x3), none] []
    unfold jM_leads_L2 at hJ
    have hj27 : ∀ (x3 s1 s2 : Int) (M : zM), jM_leads_J27 a1 a2 K2 Φ x3 s1 s2 M → zG X M 27 [some (zr 0), some (zi a1), some (zi a2), some (zi x3), none] [zi s2, zi s1, zr 9] := by
      intro x3 s1 s2 M hJ
      unfold jM_leads_J27 at hJ
      obtain ⟨h20, h20', hJ⟩ := hJ
      obtain ⟨h21, hJ⟩ := hJ
      refine zq_zast C sm9 h20 h20' h21 dX8_leads_27 (fun M22 hM22 => ?_)
      have hJ := hJ M22 hM22
      obtain ⟨hv3_23, hJ⟩ := hJ
      refine zq_iinc (y := x3 + 1) (lv' := [some (zr 0), some (zi a1), some (zi a2), some (zi (x3 + 1)), none]) C dX8_leads_28 rfl rfl hv3_23 rfl ?_
      obtain ⟨v3_23, ev3_23⟩ : ∃ z, z = x3 + 1 := ⟨_, rfl⟩
      rw [← ev3_23]
      have hJ := hJ v3_23 ev3_23
      refine zq_goto (tgt := 2) C dX8_leads_31 rfl ?_
      exact hK2 _ hJ
    refine zq_iload_n (i := 3) C dX8_leads_2 rfl rfl ?_
    refine zq_aload_n (i := 0) C dX8_leads_3 rfl rfl ?_
    refine zq_getr C fk_X8_7 sm0 rfl dX8_leads_4 ?_
    refine zq_iconst (x := 0) C dX8_leads_7 rfl ik_0 ?_
    refine zq_iald C sm1 (by decide) (by decide) dX8_leads_8 ?_
    refine zq_icmp_ge (tgt := 34) C dX8_leads_9 rfl (fun h25 => ?_) (fun h25 => ?_)
    · have hJ := hJ.1 h25
      refine zq_iconst (x := 0) C dX8_leads_34 rfl ik_0 ?_
      refine zq_istore_n (i := 3) (lv' := [some (zr 0), some (zi a1), some (zi a2), some (zi 0), none]) C dX8_leads_35 rfl (Nat.le_of_ble_eq_true rfl) rfl ?_
      exact hl36 _ hJ
    · have hJ := hJ.2 h25
      refine zq_aload_n (i := 0) C dX8_leads_12 rfl rfl ?_
      refine zq_getr C fk_X8_35 sm0 rfl dX8_leads_13 ?_
      refine zq_iload_n (i := 3) C dX8_leads_16 rfl rfl ?_
      refine zq_iload_n (i := 3) C dX8_leads_17 rfl rfl ?_
      refine zq_iload_n (i := 1) C dX8_leads_18 rfl rfl ?_
      refine zq_icmp_ne (tgt := 26) C dX8_leads_19 rfl (fun h24 => ?_) (fun h24 => ?_)
      · have hJ := hJ.1 h24
        refine zq_iconst (x := 0) C dX8_leads_26 rfl ik_0 ?_
        exact hj27 _ _ _ _ hJ
      · have hJ := hJ.2 h24
        refine zq_iconst (x := 1) C dX8_leads_22 rfl ik_1 ?_
        refine zq_goto (tgt := 27) C dX8_leads_23 rfl ?_
        exact hj27 _ _ _ _ hJ
  refine zq_iconst (x := 0) C dX8_leads_0 rfl ik_0 ?_
  refine zq_istore_n (i := 3) (lv' := [some (zr 0), some (zi a1), some (zi a2), some (zi 0), none]) C dX8_leads_1 rfl (Nat.le_of_ble_eq_true rfl) rfl ?_
  exact hl2 _ hJ
set_option maxRecDepth 100000 in
set_option maxHeartbeats 4000000 in
theorem wM_hasArrow (l : Launch) (a1 a2 : Int) (M : zM) {Φ : Int → Prop} (hJ : jM_hasArrow a1 a2 M Φ) : zMet l yX8_hasArrow cX8_hasArrow 4 (some .boolean) 3 65 shM [zr 0, zi a1, zi a2] M (zI (fun z M' => M = M' ∧ Φ z)) := by
  refine zq_enter [some (zr 0), some (zi a1), some (zi a2), none] (by decide) rfl (Nat.le_of_ble_eq_true rfl) rfl (fun X C => ?_)
  unfold jM_hasArrow at hJ
  have hl2 : ∀ (s : Int), zwh (fun K s => jM_hasArrow_L2 a1 a2 K Φ M (s)) s → zG X M 2 [some (zr 0), some (zi a1), some (zi a2), some (zi s)] [] := by
    refine zwh_sound ?_
    intro K2 s hK2 hJ
    obtain ⟨x3, rfl⟩ : ∃ z, z = s := ⟨_, rfl⟩
    have hJ : jM_hasArrow_L2 a1 a2 K2 Φ M x3 := hJ
    show zG X M 2 [some (zr 0), some (zi a1), some (zi a2), some (zi x3)] []
    unfold jM_hasArrow_L2 at hJ
    refine zq_iload_n (i := 3) C dX8_hasArrow_2 rfl rfl ?_
    refine zq_aload_n (i := 0) C dX8_hasArrow_3 rfl rfl ?_
    refine zq_getr C fk_X8_7 sm0 rfl dX8_hasArrow_4 ?_
    refine zq_bipush (x := 121) C dX8_hasArrow_7 bi_121 ik_121 ?_
    refine zq_iald C sm1 (by decide) (by decide) dX8_hasArrow_9 ?_
    refine zq_icmp_ge (tgt := 39) C dX8_hasArrow_10 rfl (fun h9 => ?_) (fun h9 => ?_)
    · have hJ := hJ.1 h9
      refine zq_iconst (x := 0) C dX8_hasArrow_39 rfl ik_0 ?_
      exact zq_zret C rfl (Or.inl rfl) ⟨_, rfl, rfl, hJ⟩ dX8_hasArrow_40
    · have hJ := hJ.2 h9
      refine zq_aload_n (i := 0) C dX8_hasArrow_13 rfl rfl ?_
      refine zq_iload_n (i := 3) C dX8_hasArrow_14 rfl rfl ?_
      refine zq_callVi C [zi x3] (wM_from l _ _  hJ) ck_X8_70 iv_X8_from rfl sm0 rfl rfl rfl rfl rfl rfl dX8_hasArrow_15 (fun r1 N2 hN2 => ?_)
      obtain ⟨rfl, hJ⟩ := hN2
      refine zq_iload_n (i := 1) C dX8_hasArrow_18 rfl rfl ?_
      refine zq_icmp_ne (tgt := 33) C dX8_hasArrow_19 rfl (fun h8 => ?_) (fun h8 => ?_)
      · have hJ := hJ.1 h8
        obtain ⟨hv3_3, hJ⟩ := hJ
        refine zq_iinc (y := x3 + 1) (lv' := [some (zr 0), some (zi a1), some (zi a2), some (zi (x3 + 1))]) C dX8_hasArrow_33 rfl rfl hv3_3 rfl ?_
        obtain ⟨v3_3, ev3_3⟩ : ∃ z, z = x3 + 1 := ⟨_, rfl⟩
        rw [← ev3_3]
        have hJ := hJ v3_3 ev3_3
        refine zq_goto (tgt := 2) C dX8_hasArrow_36 rfl ?_
        exact hK2 _ hJ
      · have hJ := hJ.2 h8
        refine zq_aload_n (i := 0) C dX8_hasArrow_22 rfl rfl ?_
        refine zq_iload_n (i := 3) C dX8_hasArrow_23 rfl rfl ?_
        refine zq_callVi C [zi x3] (wM_to l _ _  hJ) ck_X8_73 iv_X8_to rfl sm0 rfl rfl rfl rfl rfl rfl dX8_hasArrow_24 (fun r4 N5 hN5 => ?_)
        obtain ⟨rfl, hJ⟩ := hN5
        refine zq_iload_n (i := 2) C dX8_hasArrow_27 rfl rfl ?_
        refine zq_icmp_ne (tgt := 33) C dX8_hasArrow_28 rfl (fun h7 => ?_) (fun h7 => ?_)
        · have hJ := hJ.1 h7
          obtain ⟨hv3_6, hJ⟩ := hJ
          refine zq_iinc (y := x3 + 1) (lv' := [some (zr 0), some (zi a1), some (zi a2), some (zi (x3 + 1))]) C dX8_hasArrow_33 rfl rfl hv3_6 rfl ?_
          obtain ⟨v3_6, ev3_6⟩ : ∃ z, z = x3 + 1 := ⟨_, rfl⟩
          rw [← ev3_6]
          have hJ := hJ v3_6 ev3_6
          refine zq_goto (tgt := 2) C dX8_hasArrow_36 rfl ?_
          exact hK2 _ hJ
        · have hJ := hJ.2 h7
          refine zq_iconst (x := 1) C dX8_hasArrow_31 rfl ik_1 ?_
          exact zq_zret C rfl (Or.inr rfl) ⟨_, rfl, rfl, hJ⟩ dX8_hasArrow_32
  refine zq_iconst (x := 0) C dX8_hasArrow_0 rfl ik_0 ?_
  refine zq_istore_n (i := 3) (lv' := [some (zr 0), some (zi a1), some (zi a2), some (zi 0)]) C dX8_hasArrow_1 rfl (Nat.le_of_ble_eq_true rfl) rfl ?_
  exact hl2 _ hJ
set_option maxRecDepth 100000 in
set_option maxHeartbeats 4000000 in
theorem wM_addsArrow (l : Launch) (a1 a2 : Int) (M : zM) {Φ : Int → zM → Prop} (hJ : jM_addsArrow a1 a2 M Φ) : zMet l yX8_addsArrow cX8_addsArrow 6 (some .int) 4 89 shM [zr 0, zi a1, zi a2] M (zI Φ) := by
  refine zq_enter [some (zr 0), some (zi a1), some (zi a2), none, none, none] (by decide) rfl (Nat.le_of_ble_eq_true rfl) rfl (fun X C => ?_)
  unfold jM_addsArrow at hJ
  refine zq_aload_n (i := 0) C dX8_addsArrow_0 rfl rfl ?_
  refine zq_iload_n (i := 1) C dX8_addsArrow_1 rfl rfl ?_
  refine zq_callVi C [zi a1] (wM_find l _ _  hJ) ck_X8_52 iv_X8_find rfl sm0 rfl rfl rfl rfl rfl rfl dX8_addsArrow_2 (fun r1 N2 hN2 => ?_)
  obtain ⟨rfl, hJ⟩ := hN2
  refine zq_istore_n (i := 3) (lv' := [some (zr 0), some (zi a1), some (zi a2), some (zi r1), none, none]) C dX8_addsArrow_5 rfl (Nat.le_of_ble_eq_true rfl) rfl ?_
  refine zq_aload_n (i := 0) C dX8_addsArrow_6 rfl rfl ?_
  refine zq_iload_n (i := 2) C dX8_addsArrow_7 rfl rfl ?_
  refine zq_callVi C [zi a2] (wM_find l _ _  hJ) ck_X8_52 iv_X8_find rfl sm0 rfl rfl rfl rfl rfl rfl dX8_addsArrow_8 (fun r3 N4 hN4 => ?_)
  obtain ⟨rfl, hJ⟩ := hN4
  refine zq_istore (lv' := [some (zr 0), some (zi a1), some (zi a2), some (zi r1), some (zi r3), none]) C dX8_addsArrow_11 (Nat.le_of_ble_eq_true rfl) rfl ?_
  refine zq_iload_n (i := 3) C dX8_addsArrow_13 rfl rfl ?_
  refine zq_bipush (x := (-5)) C dX8_addsArrow_14 bi_m5 ik_m5 ?_
  refine zq_icmp_eq (tgt := 26) C dX8_addsArrow_16 rfl (fun h31 => ?_) (fun h31 => ?_)
  · have hJ := hJ.1 h31
    refine zq_iconst (x := (-1)) C dX8_addsArrow_26 rfl ik_m1 ?_
    exact zq_iret C rfl ⟨_, rfl, hJ⟩ dX8_addsArrow_27
  · have hJ := hJ.2 h31
    refine zq_iload C dX8_addsArrow_19 rfl ?_
    refine zq_bipush (x := (-5)) C dX8_addsArrow_21 bi_m5 ik_m5 ?_
    refine zq_icmp_ne (tgt := 28) C dX8_addsArrow_23 rfl (fun h30 => ?_) (fun h30 => ?_)
    · have hJ := hJ.1 h30
      refine zq_iload_n (i := 3) C dX8_addsArrow_28 rfl rfl ?_
      refine zq_iload C dX8_addsArrow_29 rfl ?_
      refine zq_icmp_eq (tgt := 54) C dX8_addsArrow_31 rfl (fun h29 => ?_) (fun h29 => ?_)
      · have hJ := hJ.1 h29
        refine zq_bipush (x := (-4)) C dX8_addsArrow_54 bi_m4 ik_m4 ?_
        exact zq_iret C rfl ⟨_, rfl, hJ⟩ dX8_addsArrow_56
      · have hJ := hJ.2 h29
        refine zq_aload_n (i := 0) C dX8_addsArrow_34 rfl rfl ?_
        refine zq_iload_n (i := 3) C dX8_addsArrow_35 rfl rfl ?_
        refine zq_iload C dX8_addsArrow_36 rfl ?_
        refine zq_callVi C [zi r1, zi r3] (wM_hasArrow l _ _ _  hJ) ck_X8_133 iv_X8_hasArrow rfl sm0 rfl rfl rfl rfl rfl rfl dX8_addsArrow_38 (fun r5 N6 hN6 => ?_)
        obtain ⟨rfl, hJ⟩ := hN6
        refine zq_if_ne (tgt := 54) C dX8_addsArrow_41 rfl (fun h28 => ?_) (fun h28 => ?_)
        · have hJ := hJ.1 h28
          refine zq_bipush (x := (-4)) C dX8_addsArrow_54 bi_m4 ik_m4 ?_
          exact zq_iret C rfl ⟨_, rfl, hJ⟩ dX8_addsArrow_56
        · have hJ := hJ.2 h28
          refine zq_aload_n (i := 0) C dX8_addsArrow_44 rfl rfl ?_
          refine zq_iload C dX8_addsArrow_45 rfl ?_
          refine zq_iload_n (i := 3) C dX8_addsArrow_47 rfl rfl ?_
          refine zq_callVi C [zi r3, zi r1] (wM_leads l _ _ _  hJ) ck_X8_137 iv_X8_leads rfl sm0 rfl rfl rfl rfl rfl rfl dX8_addsArrow_48 (fun r7 M8 hJ => ?_)
          refine zq_if_eq (tgt := 57) C dX8_addsArrow_51 rfl (fun h27 => ?_) (fun h27 => ?_)
          · have hJ := hJ.1 h27
            refine zq_aload_n (i := 0) C dX8_addsArrow_57 rfl rfl ?_
            refine zq_getr C fk_X8_7 sm0 rfl dX8_addsArrow_58 ?_
            refine zq_bipush (x := 121) C dX8_addsArrow_61 bi_121 ik_121 ?_
            refine zq_iald C sm1 (by decide) (by decide) dX8_addsArrow_63 ?_
            refine zq_bipush (x := 40) C dX8_addsArrow_64 bi_40 ik_40 ?_
            refine zq_icmp_eq (tgt := 83) C dX8_addsArrow_66 rfl (fun h26 => ?_) (fun h26 => ?_)
            · have hJ := hJ.1 h26
              refine zq_bipush (x := (-3)) C dX8_addsArrow_83 bi_m3 ik_m3 ?_
              exact zq_iret C rfl ⟨_, rfl, hJ⟩ dX8_addsArrow_85
            · have hJ := hJ.2 h26
              refine zq_aload_n (i := 0) C dX8_addsArrow_69 rfl rfl ?_
              refine zq_getr C fk_X8_7 sm0 rfl dX8_addsArrow_70 ?_
              refine zq_sipush (x := 445) C dX8_addsArrow_73 si_445 ik_445 ?_
              refine zq_iald C sm1 (by decide) (by decide) dX8_addsArrow_76 ?_
              refine zq_sipush (x := 200) C dX8_addsArrow_77 si_200 ik_200 ?_
              refine zq_icmp_ne (tgt := 86) C dX8_addsArrow_80 rfl (fun h25 => ?_) (fun h25 => ?_)
              · have hJ := hJ.1 h25
                refine zq_bipush (x := 122) C dX8_addsArrow_86 bi_122 ik_122 ?_
                refine zq_iconst (x := 3) C dX8_addsArrow_88 rfl ik_3 ?_
                refine zq_aload_n (i := 0) C dX8_addsArrow_89 rfl rfl ?_
                refine zq_getr C fk_X8_7 sm0 rfl dX8_addsArrow_90 ?_
                refine zq_bipush (x := 121) C dX8_addsArrow_93 bi_121 ik_121 ?_
                refine zq_iald C sm1 (by decide) (by decide) dX8_addsArrow_95 ?_
                obtain ⟨h9, hJ⟩ := hJ
                refine zq_imul C dX8_addsArrow_96 h9 ?_
                obtain ⟨h10, hJ⟩ := hJ
                refine zq_iadd C dX8_addsArrow_97 h10 ?_
                refine zq_istoreN C (fun v => [some (zr 0), some (zi a1), some (zi a2), some (zi r1), some (zi r3), some (zi v)]) dX8_addsArrow_98 (Nat.le_of_ble_eq_true rfl) (fun _ => rfl) (fun v5_11 hv5_11 => ?_)
                have hJ := hJ v5_11 hv5_11
                refine zq_aload_n (i := 0) C dX8_addsArrow_100 rfl rfl ?_
                refine zq_getr C fk_X8_7 sm0 rfl dX8_addsArrow_101 ?_
                refine zq_iload C dX8_addsArrow_104 rfl ?_
                refine zq_aload_n (i := 0) C dX8_addsArrow_106 rfl rfl ?_
                refine zq_getr C fk_X8_7 sm0 rfl dX8_addsArrow_107 ?_
                refine zq_sipush (x := 445) C dX8_addsArrow_110 si_445 ik_445 ?_
                refine zq_iald C sm1 (by decide) (by decide) dX8_addsArrow_113 ?_
                obtain ⟨h12, h12', hJ⟩ := hJ
                refine zq_iast C sm1 h12 h12' dX8_addsArrow_114 (fun M13 hM13 => ?_)
                have hJ := hJ M13 hM13
                refine zq_aload_n (i := 0) C dX8_addsArrow_115 rfl rfl ?_
                refine zq_getr C fk_X8_7 sm0 rfl dX8_addsArrow_116 ?_
                refine zq_iload C dX8_addsArrow_119 rfl ?_
                refine zq_iconst (x := 1) C dX8_addsArrow_121 rfl ik_1 ?_
                obtain ⟨h14, hJ⟩ := hJ
                refine zq_iadd C dX8_addsArrow_122 h14 ?_
                refine zq_iload_n (i := 1) C dX8_addsArrow_123 rfl rfl ?_
                obtain ⟨h15, h15', hJ⟩ := hJ
                refine zq_iast C sm1 h15 h15' dX8_addsArrow_124 (fun M16 hM16 => ?_)
                have hJ := hJ M16 hM16
                refine zq_aload_n (i := 0) C dX8_addsArrow_125 rfl rfl ?_
                refine zq_getr C fk_X8_7 sm0 rfl dX8_addsArrow_126 ?_
                refine zq_iload C dX8_addsArrow_129 rfl ?_
                refine zq_iconst (x := 2) C dX8_addsArrow_131 rfl ik_2 ?_
                obtain ⟨h17, hJ⟩ := hJ
                refine zq_iadd C dX8_addsArrow_132 h17 ?_
                refine zq_iload_n (i := 2) C dX8_addsArrow_133 rfl rfl ?_
                obtain ⟨h18, h18', hJ⟩ := hJ
                refine zq_iast C sm1 h18 h18' dX8_addsArrow_134 (fun M19 hM19 => ?_)
                have hJ := hJ M19 hM19
                refine zq_aload_n (i := 0) C dX8_addsArrow_135 rfl rfl ?_
                refine zq_getr C fk_X8_7 sm0 rfl dX8_addsArrow_136 ?_
                refine zq_bipush (x := 121) C dX8_addsArrow_139 bi_121 ik_121 ?_
                refine zq_dup2 C dX8_addsArrow_141 rfl rfl ?_
                refine zq_iald C sm1 (by decide) (by decide) dX8_addsArrow_142 ?_
                refine zq_iconst (x := 1) C dX8_addsArrow_143 rfl ik_1 ?_
                obtain ⟨h20, hJ⟩ := hJ
                refine zq_iadd C dX8_addsArrow_144 h20 ?_
                refine zq_iast C sm1 (by decide) (by decide) dX8_addsArrow_145 (fun M21 hM21 => ?_)
                have hJ := hJ M21 hM21
                refine zq_aload_n (i := 0) C dX8_addsArrow_146 rfl rfl ?_
                refine zq_getr C fk_X8_7 sm0 rfl dX8_addsArrow_147 ?_
                refine zq_sipush (x := 445) C dX8_addsArrow_150 si_445 ik_445 ?_
                refine zq_dup2 C dX8_addsArrow_153 rfl rfl ?_
                refine zq_iald C sm1 (by decide) (by decide) dX8_addsArrow_154 ?_
                refine zq_iconst (x := 1) C dX8_addsArrow_155 rfl ik_1 ?_
                obtain ⟨h22, hJ⟩ := hJ
                refine zq_iadd C dX8_addsArrow_156 h22 ?_
                refine zq_iast C sm1 (by decide) (by decide) dX8_addsArrow_157 (fun M23 hM23 => ?_)
                have hJ := hJ M23 hM23
                refine zq_aload_n (i := 0) C dX8_addsArrow_158 rfl rfl ?_
                refine zq_getr C fk_X8_7 sm0 rfl dX8_addsArrow_159 ?_
                refine zq_sipush (x := 445) C dX8_addsArrow_162 si_445 ik_445 ?_
                refine zq_iald C sm1 (by decide) (by decide) dX8_addsArrow_165 ?_
                refine zq_iconst (x := 1) C dX8_addsArrow_166 rfl ik_1 ?_
                obtain ⟨h24, hJ⟩ := hJ
                refine zq_isub C dX8_addsArrow_167 h24 ?_
                exact zq_iret C rfl ⟨_, rfl, hJ⟩ dX8_addsArrow_168
              · have hJ := hJ.2 h25
                refine zq_bipush (x := (-3)) C dX8_addsArrow_83 bi_m3 ik_m3 ?_
                exact zq_iret C rfl ⟨_, rfl, hJ⟩ dX8_addsArrow_85
          · have hJ := hJ.2 h27
            refine zq_bipush (x := (-4)) C dX8_addsArrow_54 bi_m4 ik_m4 ?_
            exact zq_iret C rfl ⟨_, rfl, hJ⟩ dX8_addsArrow_56
    · have hJ := hJ.2 h30
      refine zq_iconst (x := (-1)) C dX8_addsArrow_26 rfl ik_m1 ?_
      exact zq_iret C rfl ⟨_, rfl, hJ⟩ dX8_addsArrow_27
set_option maxRecDepth 100000 in
set_option maxHeartbeats 4000000 in
theorem wM_dropArrow (l : Launch) (a1 : Int) (M : zM) {Φ : zM → Prop} (hJ : jM_dropArrow a1 M Φ) : zMet l yX8_dropArrow cX8_dropArrow 3 none 0 0 shM [zr 0, zi a1] M (zU Φ) := by
  refine zq_enter [some (zr 0), some (zi a1), none] (by decide) rfl (Nat.le_of_ble_eq_true rfl) rfl (fun X C => ?_)
  unfold jM_dropArrow at hJ
  have hl56 : ∀ (s : Int × zM), zwh (fun K s => jM_dropArrow_L56 a1 K Φ (s.1) (s.2)) s → zG X (s.2) 56 [some (zr 0), some (zi a1), some (zi (s.1))] [] := by
    refine zwh_sound ?_
    intro K56 s hK56 hJ
    obtain ⟨x2, M⟩ := s
    have hJ : jM_dropArrow_L56 a1 K56 Φ x2 M := hJ
    show zG X M 56 [some (zr 0), some (zi a1), some (zi x2)] []
    unfold jM_dropArrow_L56 at hJ
    refine zq_iload_n (i := 2) C dX8_dropArrow_56 rfl rfl ?_
    refine zq_iconst (x := 3) C dX8_dropArrow_57 rfl ik_3 ?_
    refine zq_icmp_ge (tgt := 87) C dX8_dropArrow_58 rfl (fun h14 => ?_) (fun h14 => ?_)
    · have hJ := hJ.1 h14
      exact zq_vret C rfl hJ dX8_dropArrow_87
    · have hJ := hJ.2 h14
      refine zq_aload_n (i := 0) C dX8_dropArrow_61 rfl rfl ?_
      refine zq_getr C fk_X8_7 sm0 rfl dX8_dropArrow_62 ?_
      refine zq_bipush (x := 122) C dX8_dropArrow_65 bi_122 ik_122 ?_
      refine zq_iconst (x := 3) C dX8_dropArrow_67 rfl ik_3 ?_
      refine zq_aload_n (i := 0) C dX8_dropArrow_68 rfl rfl ?_
      refine zq_getr C fk_X8_7 sm0 rfl dX8_dropArrow_69 ?_
      refine zq_bipush (x := 121) C dX8_dropArrow_72 bi_121 ik_121 ?_
      refine zq_iald C sm1 (by decide) (by decide) dX8_dropArrow_74 ?_
      obtain ⟨h8, hJ⟩ := hJ
      refine zq_imul C dX8_dropArrow_75 h8 ?_
      obtain ⟨h9, hJ⟩ := hJ
      refine zq_iadd C dX8_dropArrow_76 h9 ?_
      refine zq_iload_n (i := 2) C dX8_dropArrow_77 rfl rfl ?_
      obtain ⟨h10, hJ⟩ := hJ
      refine zq_iadd C dX8_dropArrow_78 h10 ?_
      refine zq_iconst (x := 0) C dX8_dropArrow_79 rfl ik_0 ?_
      obtain ⟨h11, h11', hJ⟩ := hJ
      refine zq_iast C sm1 h11 h11' dX8_dropArrow_80 (fun M12 hM12 => ?_)
      have hJ := hJ M12 hM12
      obtain ⟨hv2_13, hJ⟩ := hJ
      refine zq_iinc (y := x2 + 1) (lv' := [some (zr 0), some (zi a1), some (zi (x2 + 1))]) C dX8_dropArrow_81 rfl rfl hv2_13 rfl ?_
      obtain ⟨v2_13, ev2_13⟩ : ∃ z, z = x2 + 1 := ⟨_, rfl⟩
      rw [← ev2_13]
      have hJ := hJ v2_13 ev2_13
      refine zq_goto (tgt := 56) C dX8_dropArrow_84 rfl ?_
      exact hK56 _ hJ
  have hl18 : ∀ (s : Int × zM), zwh (fun K s => jM_dropArrow_L18 a1 K Φ (s.1) (s.2)) s → zG X (s.2) 18 [some (zr 0), some (zi a1), some (zi (s.1))] [] := by
    refine zwh_sound ?_
    intro K18 s hK18 hJ
    obtain ⟨x2, M⟩ := s
    have hJ : jM_dropArrow_L18 a1 K18 Φ x2 M := hJ
    show zG X M 18 [some (zr 0), some (zi a1), some (zi x2)] []
    unfold jM_dropArrow_L18 at hJ
    refine zq_iload_n (i := 2) C dX8_dropArrow_18 rfl rfl ?_
    refine zq_bipush (x := 122) C dX8_dropArrow_19 bi_122 ik_122 ?_
    refine zq_iconst (x := 3) C dX8_dropArrow_21 rfl ik_3 ?_
    refine zq_aload_n (i := 0) C dX8_dropArrow_22 rfl rfl ?_
    refine zq_getr C fk_X8_7 sm0 rfl dX8_dropArrow_23 ?_
    refine zq_bipush (x := 121) C dX8_dropArrow_26 bi_121 ik_121 ?_
    refine zq_iald C sm1 (by decide) (by decide) dX8_dropArrow_28 ?_
    obtain ⟨h6, hJ⟩ := hJ
    refine zq_imul C dX8_dropArrow_29 h6 ?_
    obtain ⟨h7, hJ⟩ := hJ
    refine zq_iadd C dX8_dropArrow_30 h7 ?_
    refine zq_icmp_ge (tgt := 54) C dX8_dropArrow_31 rfl (fun h20 => ?_) (fun h20 => ?_)
    · have hJ := hJ.1 h20
      refine zq_iconst (x := 0) C dX8_dropArrow_54 rfl ik_0 ?_
      refine zq_istore_n (i := 2) (lv' := [some (zr 0), some (zi a1), some (zi 0)]) C dX8_dropArrow_55 rfl (Nat.le_of_ble_eq_true rfl) rfl ?_
      exact hl56 _ hJ
    · have hJ := hJ.2 h20
      refine zq_aload_n (i := 0) C dX8_dropArrow_34 rfl rfl ?_
      refine zq_getr C fk_X8_7 sm0 rfl dX8_dropArrow_35 ?_
      refine zq_iload_n (i := 2) C dX8_dropArrow_38 rfl rfl ?_
      refine zq_aload_n (i := 0) C dX8_dropArrow_39 rfl rfl ?_
      refine zq_getr C fk_X8_7 sm0 rfl dX8_dropArrow_40 ?_
      refine zq_iload_n (i := 2) C dX8_dropArrow_43 rfl rfl ?_
      refine zq_iconst (x := 3) C dX8_dropArrow_44 rfl ik_3 ?_
      obtain ⟨h15, hJ⟩ := hJ
      refine zq_iadd C dX8_dropArrow_45 h15 ?_
      obtain ⟨h16, h16', hJ⟩ := hJ
      refine zq_iald C sm1 h16 h16' dX8_dropArrow_46 ?_
      obtain ⟨h17, h17', hJ⟩ := hJ
      refine zq_iast C sm1 h17 h17' dX8_dropArrow_47 (fun M18 hM18 => ?_)
      have hJ := hJ M18 hM18
      obtain ⟨hv2_19, hJ⟩ := hJ
      refine zq_iinc (y := x2 + 1) (lv' := [some (zr 0), some (zi a1), some (zi (x2 + 1))]) C dX8_dropArrow_48 rfl rfl hv2_19 rfl ?_
      obtain ⟨v2_19, ev2_19⟩ : ∃ z, z = x2 + 1 := ⟨_, rfl⟩
      rw [← ev2_19]
      have hJ := hJ v2_19 ev2_19
      refine zq_goto (tgt := 18) C dX8_dropArrow_51 rfl ?_
      exact hK18 _ hJ
  refine zq_aload_n (i := 0) C dX8_dropArrow_0 rfl rfl ?_
  refine zq_getr C fk_X8_7 sm0 rfl dX8_dropArrow_1 ?_
  refine zq_bipush (x := 121) C dX8_dropArrow_4 bi_121 ik_121 ?_
  refine zq_dup2 C dX8_dropArrow_6 rfl rfl ?_
  refine zq_iald C sm1 (by decide) (by decide) dX8_dropArrow_7 ?_
  refine zq_iconst (x := 1) C dX8_dropArrow_8 rfl ik_1 ?_
  obtain ⟨h1, hJ⟩ := hJ
  refine zq_isub C dX8_dropArrow_9 h1 ?_
  refine zq_iast C sm1 (by decide) (by decide) dX8_dropArrow_10 (fun M2 hM2 => ?_)
  have hJ := hJ M2 hM2
  refine zq_bipush (x := 122) C dX8_dropArrow_11 bi_122 ik_122 ?_
  refine zq_iconst (x := 3) C dX8_dropArrow_13 rfl ik_3 ?_
  refine zq_iload_n (i := 1) C dX8_dropArrow_14 rfl rfl ?_
  obtain ⟨h3, hJ⟩ := hJ
  refine zq_imul C dX8_dropArrow_15 h3 ?_
  obtain ⟨h4, hJ⟩ := hJ
  refine zq_iadd C dX8_dropArrow_16 h4 ?_
  refine zq_istoreN_n (i := 2) C (fun v => [some (zr 0), some (zi a1), some (zi v)]) dX8_dropArrow_17 rfl (Nat.le_of_ble_eq_true rfl) (fun _ => rfl) (fun v2_5 hv2_5 => ?_)
  have hJ := hJ v2_5 hv2_5
  exact hl18 _ hJ
set_option maxRecDepth 100000 in
set_option maxHeartbeats 4000000 in
theorem wM_takesBar (l : Launch) (a1 : Int) (M : zM) {Φ : Int → zM → Prop} (hJ : jM_takesBar a1 M Φ) : zMet l yX8_takesBar cX8_takesBar 5 (some .int) 3 65 shM [zr 0, zi a1] M (zI Φ) := by
  refine zq_enter [some (zr 0), some (zi a1), none, none, none] (by decide) rfl (Nat.le_of_ble_eq_true rfl) rfl (fun X C => ?_)
  unfold jM_takesBar at hJ
  have hl124 : ∀ (x3 : Int) (s : Int × zM), zwh (fun K s => jM_takesBar_L124 a1 K Φ x3 (s.1) (s.2)) s → zG X (s.2) 124 [some (zr 0), some (zi a1), none, some (zi x3), some (zi (s.1))] [] := by
    intro x3
    refine zwh_sound ?_
    intro K124 s hK124 hJ
    obtain ⟨x4, M⟩ := s
    have hJ : jM_takesBar_L124 a1 K124 Φ x3 x4 M := hJ
    show zG X M 124 [some (zr 0), some (zi a1), none, some (zi x3), some (zi x4)] []
    unfold jM_takesBar_L124 at hJ
    refine zq_iload C dX8_takesBar_124 rfl ?_
    refine zq_iconst (x := 4) C dX8_takesBar_126 rfl ik_4 ?_
    refine zq_icmp_ge (tgt := 155) C dX8_takesBar_127 rfl (fun h18 => ?_) (fun h18 => ?_)
    · have hJ := hJ.1 h18
      refine zq_iload_n (i := 3) C dX8_takesBar_155 rfl rfl ?_
      exact zq_iret C rfl ⟨_, rfl, hJ⟩ dX8_takesBar_156
    · have hJ := hJ.2 h18
      refine zq_aload_n (i := 0) C dX8_takesBar_130 rfl rfl ?_
      refine zq_getr C fk_X8_7 sm0 rfl dX8_takesBar_131 ?_
      refine zq_iconst (x := 1) C dX8_takesBar_134 rfl ik_1 ?_
      refine zq_iconst (x := 4) C dX8_takesBar_135 rfl ik_4 ?_
      refine zq_aload_n (i := 0) C dX8_takesBar_136 rfl rfl ?_
      refine zq_getr C fk_X8_7 sm0 rfl dX8_takesBar_137 ?_
      refine zq_iconst (x := 0) C dX8_takesBar_140 rfl ik_0 ?_
      refine zq_iald C sm1 (by decide) (by decide) dX8_takesBar_141 ?_
      obtain ⟨h12, hJ⟩ := hJ
      refine zq_imul C dX8_takesBar_142 h12 ?_
      obtain ⟨h13, hJ⟩ := hJ
      refine zq_iadd C dX8_takesBar_143 h13 ?_
      refine zq_iload C dX8_takesBar_144 rfl ?_
      obtain ⟨h14, hJ⟩ := hJ
      refine zq_iadd C dX8_takesBar_146 h14 ?_
      refine zq_iconst (x := 0) C dX8_takesBar_147 rfl ik_0 ?_
      obtain ⟨h15, h15', hJ⟩ := hJ
      refine zq_iast C sm1 h15 h15' dX8_takesBar_148 (fun M16 hM16 => ?_)
      have hJ := hJ M16 hM16
      obtain ⟨hv4_17, hJ⟩ := hJ
      refine zq_iinc (y := x4 + 1) (lv' := [some (zr 0), some (zi a1), none, some (zi x3), some (zi (x4 + 1))]) C dX8_takesBar_149 rfl rfl hv4_17 rfl ?_
      obtain ⟨v4_17, ev4_17⟩ : ∃ z, z = x4 + 1 := ⟨_, rfl⟩
      rw [← ev4_17]
      have hJ := hJ v4_17 ev4_17
      refine zq_goto (tgt := 124) C dX8_takesBar_152 rfl ?_
      exact hK124 _ hJ
  have hl84 : ∀ (x3 : Int) (s : Int × zM), zwh (fun K s => jM_takesBar_L84 a1 K Φ x3 (s.1) (s.2)) s → zG X (s.2) 84 [some (zr 0), some (zi a1), none, some (zi x3), some (zi (s.1))] [] := by
    intro x3
    refine zwh_sound ?_
    intro K84 s hK84 hJ
    obtain ⟨x4, M⟩ := s
    have hJ : jM_takesBar_L84 a1 K84 Φ x3 x4 M := hJ
    show zG X M 84 [some (zr 0), some (zi a1), none, some (zi x3), some (zi x4)] []
    unfold jM_takesBar_L84 at hJ
    refine zq_iload C dX8_takesBar_84 rfl ?_
    refine zq_iconst (x := 1) C dX8_takesBar_86 rfl ik_1 ?_
    refine zq_iconst (x := 4) C dX8_takesBar_87 rfl ik_4 ?_
    refine zq_aload_n (i := 0) C dX8_takesBar_88 rfl rfl ?_
    refine zq_getr C fk_X8_7 sm0 rfl dX8_takesBar_89 ?_
    refine zq_iconst (x := 0) C dX8_takesBar_92 rfl ik_0 ?_
    refine zq_iald C sm1 (by decide) (by decide) dX8_takesBar_93 ?_
    obtain ⟨h10, hJ⟩ := hJ
    refine zq_imul C dX8_takesBar_94 h10 ?_
    obtain ⟨h11, hJ⟩ := hJ
    refine zq_iadd C dX8_takesBar_95 h11 ?_
    refine zq_icmp_ge (tgt := 121) C dX8_takesBar_96 rfl (fun h24 => ?_) (fun h24 => ?_)
    · have hJ := hJ.1 h24
      refine zq_iconst (x := 0) C dX8_takesBar_121 rfl ik_0 ?_
      refine zq_istore (lv' := [some (zr 0), some (zi a1), none, some (zi x3), some (zi 0)]) C dX8_takesBar_122 (Nat.le_of_ble_eq_true rfl) rfl ?_
      exact hl124 _ _ hJ
    · have hJ := hJ.2 h24
      refine zq_aload_n (i := 0) C dX8_takesBar_99 rfl rfl ?_
      refine zq_getr C fk_X8_7 sm0 rfl dX8_takesBar_100 ?_
      refine zq_iload C dX8_takesBar_103 rfl ?_
      refine zq_aload_n (i := 0) C dX8_takesBar_105 rfl rfl ?_
      refine zq_getr C fk_X8_7 sm0 rfl dX8_takesBar_106 ?_
      refine zq_iload C dX8_takesBar_109 rfl ?_
      refine zq_iconst (x := 4) C dX8_takesBar_111 rfl ik_4 ?_
      obtain ⟨h19, hJ⟩ := hJ
      refine zq_iadd C dX8_takesBar_112 h19 ?_
      obtain ⟨h20, h20', hJ⟩ := hJ
      refine zq_iald C sm1 h20 h20' dX8_takesBar_113 ?_
      obtain ⟨h21, h21', hJ⟩ := hJ
      refine zq_iast C sm1 h21 h21' dX8_takesBar_114 (fun M22 hM22 => ?_)
      have hJ := hJ M22 hM22
      obtain ⟨hv4_23, hJ⟩ := hJ
      refine zq_iinc (y := x4 + 1) (lv' := [some (zr 0), some (zi a1), none, some (zi x3), some (zi (x4 + 1))]) C dX8_takesBar_115 rfl rfl hv4_23 rfl ?_
      obtain ⟨v4_23, ev4_23⟩ : ∃ z, z = x4 + 1 := ⟨_, rfl⟩
      rw [← ev4_23]
      have hJ := hJ v4_23 ev4_23
      refine zq_goto (tgt := 84) C dX8_takesBar_118 rfl ?_
      exact hK84 _ hJ
  have hl27 : ∀ (x2 : Int) (s : Int × Int × zM), zwh (fun K s => jM_takesBar_L27 a1 K Φ x2 (s.1) (s.2.1) (s.2.2)) s → zG X (s.2.2) 27 [some (zr 0), some (zi a1), some (zi x2), some (zi (s.1)), some (zi (s.2.1))] [] := by
    intro x2
    refine zwh_sound ?_
    intro K27 s hK27 hJ
    obtain ⟨x3, x4, M⟩ := s
    have hJ : jM_takesBar_L27 a1 K27 Φ x2 x3 x4 M := hJ
    show zG X M 27 [some (zr 0), some (zi a1), some (zi x2), some (zi x3), some (zi x4)] []
    unfold jM_takesBar_L27 at hJ
    have hj52 : ∀ (x3 x4 : Int) (M : zM), jM_takesBar_J52 a1 K27 Φ x2 x3 x4 M → zG X M 52 [some (zr 0), some (zi a1), some (zi x2), some (zi x3), some (zi x4)] [] := by
      intro x3 x4 M hJ
      unfold jM_takesBar_J52 at hJ
      refine zq_aload_n (i := 0) C dX8_takesBar_52 rfl rfl ?_
      refine zq_iload C dX8_takesBar_53 rfl ?_
      refine zq_callVv C [zi x4] (wM_dropArrow l _ _  hJ) ck_X8_140 iv_X8_dropArrow rfl sm0 rfl rfl rfl rfl rfl rfl dX8_takesBar_55 (fun M27 hJ => ?_)
      obtain ⟨hv3_28, hJ⟩ := hJ
      refine zq_iinc (y := x3 + 1) (lv' := [some (zr 0), some (zi a1), some (zi x2), some (zi (x3 + 1)), some (zi x4)]) C dX8_takesBar_58 rfl rfl hv3_28 rfl ?_
      obtain ⟨v3_28, ev3_28⟩ : ∃ z, z = x3 + 1 := ⟨_, rfl⟩
      rw [← ev3_28]
      have hJ := hJ v3_28 ev3_28
      obtain ⟨hv4_29, hJ⟩ := hJ
      refine zq_iinc (y := x4 + (-1)) (lv' := [some (zr 0), some (zi a1), some (zi x2), some (zi v3_28), some (zi (x4 + (-1)))]) C dX8_takesBar_61 rfl rfl hv4_29 rfl ?_
      obtain ⟨v4_29, ev4_29⟩ : ∃ z, z = x4 + (-1) := ⟨_, rfl⟩
      rw [← ev4_29]
      have hJ := hJ v4_29 ev4_29
      refine zq_goto (tgt := 27) C dX8_takesBar_64 rfl ?_
      exact hK27 _ hJ
    refine zq_iload C dX8_takesBar_27 rfl ?_
    refine zq_if_lt (tgt := 67) C dX8_takesBar_29 rfl (fun h35 => ?_) (fun h35 => ?_)
    · have hJ := hJ.1 h35
      refine zq_aload_n (i := 0) C dX8_takesBar_67 rfl rfl ?_
      refine zq_getr C fk_X8_7 sm0 rfl dX8_takesBar_68 ?_
      refine zq_iconst (x := 0) C dX8_takesBar_71 rfl ik_0 ?_
      refine zq_dup2 C dX8_takesBar_72 rfl rfl ?_
      refine zq_iald C sm1 (by decide) (by decide) dX8_takesBar_73 ?_
      refine zq_iconst (x := 1) C dX8_takesBar_74 rfl ik_1 ?_
      obtain ⟨h5, hJ⟩ := hJ
      refine zq_isub C dX8_takesBar_75 h5 ?_
      refine zq_iast C sm1 (by decide) (by decide) dX8_takesBar_76 (fun M6 hM6 => ?_)
      have hJ := hJ M6 hM6
      refine zq_iconst (x := 1) C dX8_takesBar_77 rfl ik_1 ?_
      refine zq_iconst (x := 4) C dX8_takesBar_78 rfl ik_4 ?_
      refine zq_iload_n (i := 2) C dX8_takesBar_79 rfl rfl ?_
      obtain ⟨h7, hJ⟩ := hJ
      refine zq_imul C dX8_takesBar_80 h7 ?_
      obtain ⟨h8, hJ⟩ := hJ
      refine zq_iadd C dX8_takesBar_81 h8 ?_
      refine zq_istoreN C (fun v => [some (zr 0), some (zi a1), some (zi x2), some (zi x3), some (zi v)]) dX8_takesBar_82 (Nat.le_of_ble_eq_true rfl) (fun _ => rfl) (fun v4_9 hv4_9 => ?_)
      have hJ := hJ v4_9 hv4_9
      refine zq_weak [some (zr 0), some (zi a1), none, some (zi x3), some (zi v4_9)] ⟨Or.inr rfl, Or.inr rfl, Or.inl rfl, Or.inr rfl, Or.inr rfl, trivial⟩ ?_
      exact hl84 _ _ hJ
    · have hJ := hJ.2 h35
      refine zq_aload_n (i := 0) C dX8_takesBar_32 rfl rfl ?_
      refine zq_iload C dX8_takesBar_33 rfl ?_
      refine zq_callVi C [zi x4] (wM_from l _ _  hJ) ck_X8_70 iv_X8_from rfl sm0 rfl rfl rfl rfl rfl rfl dX8_takesBar_35 (fun r25 N26 hN26 => ?_)
      obtain ⟨rfl, hJ⟩ := hN26
      refine zq_iload_n (i := 2) C dX8_takesBar_38 rfl rfl ?_
      refine zq_icmp_eq (tgt := 52) C dX8_takesBar_39 rfl (fun h34 => ?_) (fun h34 => ?_)
      · have hJ := hJ.1 h34
        exact hj52 _ _ _ hJ
      · have hJ := hJ.2 h34
        refine zq_aload_n (i := 0) C dX8_takesBar_42 rfl rfl ?_
        refine zq_iload C dX8_takesBar_43 rfl ?_
        refine zq_callVi C [zi x4] (wM_to l _ _  hJ) ck_X8_73 iv_X8_to rfl sm0 rfl rfl rfl rfl rfl rfl dX8_takesBar_45 (fun r30 N31 hN31 => ?_)
        obtain ⟨rfl, hJ⟩ := hN31
        refine zq_iload_n (i := 2) C dX8_takesBar_48 rfl rfl ?_
        refine zq_icmp_ne (tgt := 61) C dX8_takesBar_49 rfl (fun h33 => ?_) (fun h33 => ?_)
        · have hJ := hJ.1 h33
          obtain ⟨hv4_32, hJ⟩ := hJ
          refine zq_iinc (y := x4 + (-1)) (lv' := [some (zr 0), some (zi a1), some (zi x2), some (zi x3), some (zi (x4 + (-1)))]) C dX8_takesBar_61 rfl rfl hv4_32 rfl ?_
          obtain ⟨v4_32, ev4_32⟩ : ∃ z, z = x4 + (-1) := ⟨_, rfl⟩
          rw [← ev4_32]
          have hJ := hJ v4_32 ev4_32
          refine zq_goto (tgt := 27) C dX8_takesBar_64 rfl ?_
          exact hK27 _ hJ
        · have hJ := hJ.2 h33
          exact hj52 _ _ _ hJ
  refine zq_aload_n (i := 0) C dX8_takesBar_0 rfl rfl ?_
  refine zq_iload_n (i := 1) C dX8_takesBar_1 rfl rfl ?_
  refine zq_callVi C [zi a1] (wM_find l _ _  hJ) ck_X8_52 iv_X8_find rfl sm0 rfl rfl rfl rfl rfl rfl dX8_takesBar_2 (fun r1 N2 hN2 => ?_)
  obtain ⟨rfl, hJ⟩ := hN2
  refine zq_istore_n (i := 2) (lv' := [some (zr 0), some (zi a1), some (zi r1), none, none]) C dX8_takesBar_5 rfl (Nat.le_of_ble_eq_true rfl) rfl ?_
  refine zq_iload_n (i := 2) C dX8_takesBar_6 rfl rfl ?_
  refine zq_bipush (x := (-5)) C dX8_takesBar_7 bi_m5 ik_m5 ?_
  refine zq_icmp_ne (tgt := 14) C dX8_takesBar_9 rfl (fun h36 => ?_) (fun h36 => ?_)
  · have hJ := hJ.1 h36
    refine zq_iconst (x := 0) C dX8_takesBar_14 rfl ik_0 ?_
    refine zq_istore_n (i := 3) (lv' := [some (zr 0), some (zi a1), some (zi r1), some (zi 0), none]) C dX8_takesBar_15 rfl (Nat.le_of_ble_eq_true rfl) rfl ?_
    refine zq_aload_n (i := 0) C dX8_takesBar_16 rfl rfl ?_
    refine zq_getr C fk_X8_7 sm0 rfl dX8_takesBar_17 ?_
    refine zq_bipush (x := 121) C dX8_takesBar_20 bi_121 ik_121 ?_
    refine zq_iald C sm1 (by decide) (by decide) dX8_takesBar_22 ?_
    refine zq_iconst (x := 1) C dX8_takesBar_23 rfl ik_1 ?_
    obtain ⟨h3, hJ⟩ := hJ
    refine zq_isub C dX8_takesBar_24 h3 ?_
    refine zq_istoreN C (fun v => [some (zr 0), some (zi a1), some (zi r1), some (zi 0), some (zi v)]) dX8_takesBar_25 (Nat.le_of_ble_eq_true rfl) (fun _ => rfl) (fun v4_4 hv4_4 => ?_)
    have hJ := hJ v4_4 hv4_4
    exact hl27 _ _ hJ
  · have hJ := hJ.2 h36
    refine zq_iconst (x := (-1)) C dX8_takesBar_12 rfl ik_m1 ?_
    exact zq_iret C rfl ⟨_, rfl, hJ⟩ dX8_takesBar_13
set_option maxRecDepth 100000 in
set_option maxHeartbeats 4000000 in
theorem wM_takesArrow (l : Launch) (a1 : Int) (M : zM) {Φ : Int → zM → Prop} (hJ : jM_takesArrow a1 M Φ) : zMet l yX8_takesArrow cX8_takesArrow 4 (some .int) 1 22 shM [zr 0, zi a1] M (zI Φ) := by
  refine zq_enter [some (zr 0), some (zi a1), none, none] (by decide) rfl (Nat.le_of_ble_eq_true rfl) rfl (fun X C => ?_)
  unfold jM_takesArrow at hJ
  refine zq_aload_n (i := 0) C dX8_takesArrow_0 rfl rfl ?_
  refine zq_iload_n (i := 1) C dX8_takesArrow_1 rfl rfl ?_
  refine zq_callVi C [zi a1] (wM_findArrow l _ _  hJ) ck_X8_144 iv_X8_findArrow rfl sm0 rfl rfl rfl rfl rfl rfl dX8_takesArrow_2 (fun r1 N2 hN2 => ?_)
  obtain ⟨rfl, hJ⟩ := hN2
  refine zq_istore_n (i := 2) (lv' := [some (zr 0), some (zi a1), some (zi r1), none]) C dX8_takesArrow_5 rfl (Nat.le_of_ble_eq_true rfl) rfl ?_
  refine zq_iload_n (i := 2) C dX8_takesArrow_6 rfl rfl ?_
  refine zq_bipush (x := (-5)) C dX8_takesArrow_7 bi_m5 ik_m5 ?_
  refine zq_icmp_ne (tgt := 14) C dX8_takesArrow_9 rfl (fun h9 => ?_) (fun h9 => ?_)
  · have hJ := hJ.1 h9
    refine zq_aload_n (i := 0) C dX8_takesArrow_14 rfl rfl ?_
    refine zq_getr C fk_X8_7 sm0 rfl dX8_takesArrow_15 ?_
    refine zq_bipush (x := 122) C dX8_takesArrow_18 bi_122 ik_122 ?_
    refine zq_iconst (x := 3) C dX8_takesArrow_20 rfl ik_3 ?_
    refine zq_iload_n (i := 2) C dX8_takesArrow_21 rfl rfl ?_
    obtain ⟨h3, hJ⟩ := hJ
    refine zq_imul C dX8_takesArrow_22 h3 ?_
    obtain ⟨h4, hJ⟩ := hJ
    refine zq_iadd C dX8_takesArrow_23 h4 ?_
    refine zq_iconst (x := 2) C dX8_takesArrow_24 rfl ik_2 ?_
    obtain ⟨h5, hJ⟩ := hJ
    refine zq_iadd C dX8_takesArrow_25 h5 ?_
    obtain ⟨h6, h6', hJ⟩ := hJ
    refine zq_iald C sm1 h6 h6' dX8_takesArrow_26 ?_
    refine zq_istoreN_n (i := 3) C (fun v => [some (zr 0), some (zi a1), some (zi r1), some (zi v)]) dX8_takesArrow_27 rfl (Nat.le_of_ble_eq_true rfl) (fun _ => rfl) (fun v3_7 hv3_7 => ?_)
    have hJ := hJ v3_7 hv3_7
    refine zq_aload_n (i := 0) C dX8_takesArrow_28 rfl rfl ?_
    refine zq_iload_n (i := 2) C dX8_takesArrow_29 rfl rfl ?_
    refine zq_callVv C [zi r1] (wM_dropArrow l _ _  hJ) ck_X8_140 iv_X8_dropArrow rfl sm0 rfl rfl rfl rfl rfl rfl dX8_takesArrow_30 (fun M8 hJ => ?_)
    refine zq_iload_n (i := 3) C dX8_takesArrow_33 rfl rfl ?_
    exact zq_iret C rfl ⟨_, rfl, hJ⟩ dX8_takesArrow_34
  · have hJ := hJ.2 h9
    refine zq_iconst (x := (-1)) C dX8_takesArrow_12 rfl ik_m1 ?_
    exact zq_iret C rfl ⟨_, rfl, hJ⟩ dX8_takesArrow_13
set_option maxRecDepth 100000 in
set_option maxHeartbeats 4000000 in
theorem wM_moves (l : Launch) (a1 a2 a3 : Int) (M : zM) {Φ : Int → zM → Prop} (hJ : jM_moves a1 a2 a3 M Φ) : zMet l yX8_moves cX8_moves 5 (some .int) 7 161 shM [zr 0, zi a1, zi a2, zi a3] M (zI Φ) := by
  refine zq_enter [some (zr 0), some (zi a1), some (zi a2), some (zi a3), none] (by decide) rfl (Nat.le_of_ble_eq_true rfl) rfl (fun X C => ?_)
  unfold jM_moves at hJ
  have hj77 : ∀ (x4 : Int) (M : zM), jM_moves_J77 a1 a2 a3 Φ x4 M → zG X M 77 [some (zr 0), some (zi a1), some (zi a2), some (zi a3), some (zi x4)] [] := by
    intro x4 M hJ
    unfold jM_moves_J77 at hJ
    refine zq_aload_n (i := 0) C dX8_moves_77 rfl rfl ?_
    refine zq_iload_n (i := 2) C dX8_moves_78 rfl rfl ?_
    refine zq_iload_n (i := 3) C dX8_moves_79 rfl rfl ?_
    refine zq_iload_n (i := 3) C dX8_moves_80 rfl rfl ?_
    refine zq_aload_n (i := 0) C dX8_moves_81 rfl rfl ?_
    refine zq_iload C dX8_moves_82 rfl ?_
    refine zq_iconst (x := 3) C dX8_moves_84 rfl ik_3 ?_
    refine zq_callVi C [zi x4, zi 3] (wM_of l _ _ _  hJ) ck_X8_48 iv_X8_of rfl sm0 rfl rfl rfl rfl rfl rfl dX8_moves_85 (fun r12 N13 hN13 => ?_)
    obtain ⟨rfl, hJ⟩ := hN13
    obtain ⟨h14, hJ⟩ := hJ
    refine zq_iadd C dX8_moves_88 h14 ?_
    refine zq_iconst (x := 1) C dX8_moves_89 rfl ik_1 ?_
    obtain ⟨h15, hJ⟩ := hJ
    refine zq_isub C dX8_moves_90 h15 ?_
    refine zq_iload C dX8_moves_91 rfl ?_
    refine zq_callVi C [zi a2, zi a3, zi ((a3 + r12) - 1), zi x4] (wM_within l _ _ _ _ _  hJ) ck_X8_62 iv_X8_within rfl sm0 rfl rfl rfl rfl rfl rfl dX8_moves_93 (fun r16 N17 hN17 => ?_)
    obtain ⟨rfl, hJ⟩ := hN17
    refine zq_bipush (x := (-5)) C dX8_moves_96 bi_m5 ik_m5 ?_
    refine zq_icmp_eq (tgt := 104) C dX8_moves_98 rfl (fun h30 => ?_) (fun h30 => ?_)
    · have hJ := hJ.1 h30
      refine zq_aload_n (i := 0) C dX8_moves_104 rfl rfl ?_
      refine zq_getr C fk_X8_7 sm0 rfl dX8_moves_105 ?_
      refine zq_iconst (x := 1) C dX8_moves_108 rfl ik_1 ?_
      refine zq_iconst (x := 4) C dX8_moves_109 rfl ik_4 ?_
      refine zq_iload C dX8_moves_110 rfl ?_
      obtain ⟨h18, hJ⟩ := hJ
      refine zq_imul C dX8_moves_112 h18 ?_
      obtain ⟨h19, hJ⟩ := hJ
      refine zq_iadd C dX8_moves_113 h19 ?_
      refine zq_iconst (x := 1) C dX8_moves_114 rfl ik_1 ?_
      obtain ⟨h20, hJ⟩ := hJ
      refine zq_iadd C dX8_moves_115 h20 ?_
      refine zq_iload_n (i := 2) C dX8_moves_116 rfl rfl ?_
      obtain ⟨h21, h21', hJ⟩ := hJ
      refine zq_iast C sm1 h21 h21' dX8_moves_117 (fun M22 hM22 => ?_)
      have hJ := hJ M22 hM22
      refine zq_aload_n (i := 0) C dX8_moves_118 rfl rfl ?_
      refine zq_getr C fk_X8_7 sm0 rfl dX8_moves_119 ?_
      refine zq_iconst (x := 1) C dX8_moves_122 rfl ik_1 ?_
      refine zq_iconst (x := 4) C dX8_moves_123 rfl ik_4 ?_
      refine zq_iload C dX8_moves_124 rfl ?_
      obtain ⟨h23, hJ⟩ := hJ
      refine zq_imul C dX8_moves_126 h23 ?_
      obtain ⟨h24, hJ⟩ := hJ
      refine zq_iadd C dX8_moves_127 h24 ?_
      refine zq_iconst (x := 2) C dX8_moves_128 rfl ik_2 ?_
      obtain ⟨h25, hJ⟩ := hJ
      refine zq_iadd C dX8_moves_129 h25 ?_
      refine zq_iload_n (i := 3) C dX8_moves_130 rfl rfl ?_
      obtain ⟨h26, h26', hJ⟩ := hJ
      refine zq_iast C sm1 h26 h26' dX8_moves_131 (fun M27 hM27 => ?_)
      have hJ := hJ M27 hM27
      refine zq_aload_n (i := 0) C dX8_moves_132 rfl rfl ?_
      refine zq_callVi C [] (wM_notDrawn l _  hJ) ck_X8_147 iv_X8_notDrawn rfl sm0 rfl rfl rfl rfl rfl rfl dX8_moves_133 (fun r28 N29 hN29 => ?_)
      obtain ⟨rfl, hJ⟩ := hN29
      exact zq_iret C rfl ⟨_, rfl, hJ⟩ dX8_moves_136
    · have hJ := hJ.2 h30
      refine zq_bipush (x := (-4)) C dX8_moves_101 bi_m4 ik_m4 ?_
      exact zq_iret C rfl ⟨_, rfl, hJ⟩ dX8_moves_103
  refine zq_aload_n (i := 0) C dX8_moves_0 rfl rfl ?_
  refine zq_iload_n (i := 1) C dX8_moves_1 rfl rfl ?_
  refine zq_callVi C [zi a1] (wM_find l _ _  hJ) ck_X8_52 iv_X8_find rfl sm0 rfl rfl rfl rfl rfl rfl dX8_moves_2 (fun r1 N2 hN2 => ?_)
  obtain ⟨rfl, hJ⟩ := hN2
  refine zq_istore (lv' := [some (zr 0), some (zi a1), some (zi a2), some (zi a3), some (zi r1)]) C dX8_moves_5 (Nat.le_of_ble_eq_true rfl) rfl ?_
  refine zq_iload C dX8_moves_7 rfl ?_
  refine zq_bipush (x := (-5)) C dX8_moves_9 bi_m5 ik_m5 ?_
  refine zq_icmp_eq (tgt := 21) C dX8_moves_11 rfl (fun h38 => ?_) (fun h38 => ?_)
  · have hJ := hJ.1 h38
    refine zq_iconst (x := (-1)) C dX8_moves_21 rfl ik_m1 ?_
    exact zq_iret C rfl ⟨_, rfl, hJ⟩ dX8_moves_22
  · have hJ := hJ.2 h38
    refine zq_iload_n (i := 2) C dX8_moves_14 rfl rfl ?_
    refine zq_callSi C [zi a2] (wM_isLane l _ _  hJ) ck_X8_130 st_X8_isLane rfl rfl rfl rfl rfl rfl dX8_moves_15 (fun r3 N4 hN4 => ?_)
    obtain ⟨rfl, hJ⟩ := hN4
    refine zq_if_ne (tgt := 23) C dX8_moves_18 rfl (fun h37 => ?_) (fun h37 => ?_)
    · have hJ := hJ.1 h37
      refine zq_iload_n (i := 3) C dX8_moves_23 rfl rfl ?_
      refine zq_iconst (x := 0) C dX8_moves_24 rfl ik_0 ?_
      refine zq_sipush (x := 199) C dX8_moves_25 si_199 ik_199 ?_
      refine zq_callSi C [zi a3, zi 0, zi 199] (wM_in l _ _ _ _  hJ) ck_X8_79 st_X8_in rfl rfl rfl rfl rfl rfl dX8_moves_28 (fun r5 N6 hN6 => ?_)
      obtain ⟨rfl, hJ⟩ := hN6
      refine zq_if_eq (tgt := 49) C dX8_moves_31 rfl (fun h36 => ?_) (fun h36 => ?_)
      · have hJ := hJ.1 h36
        refine zq_bipush (x := (-2)) C dX8_moves_49 bi_m2 ik_m2 ?_
        exact zq_iret C rfl ⟨_, rfl, hJ⟩ dX8_moves_51
      · have hJ := hJ.2 h36
        refine zq_iload_n (i := 3) C dX8_moves_34 rfl rfl ?_
        refine zq_aload_n (i := 0) C dX8_moves_35 rfl rfl ?_
        refine zq_iload C dX8_moves_36 rfl ?_
        refine zq_iconst (x := 3) C dX8_moves_38 rfl ik_3 ?_
        refine zq_callVi C [zi r1, zi 3] (wM_of l _ _ _  hJ) ck_X8_48 iv_X8_of rfl sm0 rfl rfl rfl rfl rfl rfl dX8_moves_39 (fun r7 N8 hN8 => ?_)
        obtain ⟨rfl, hJ⟩ := hN8
        obtain ⟨h9, hJ⟩ := hJ
        refine zq_iadd C dX8_moves_42 h9 ?_
        refine zq_sipush (x := 200) C dX8_moves_43 si_200 ik_200 ?_
        refine zq_icmp_le (tgt := 52) C dX8_moves_46 rfl (fun h35 => ?_) (fun h35 => ?_)
        · have hJ := hJ.1 h35
          refine zq_aload_n (i := 0) C dX8_moves_52 rfl rfl ?_
          refine zq_iload C dX8_moves_53 rfl ?_
          refine zq_iconst (x := 1) C dX8_moves_55 rfl ik_1 ?_
          refine zq_callVi C [zi r1, zi 1] (wM_of l _ _ _  hJ) ck_X8_48 iv_X8_of rfl sm0 rfl rfl rfl rfl rfl rfl dX8_moves_56 (fun r10 N11 hN11 => ?_)
          obtain ⟨rfl, hJ⟩ := hN11
          refine zq_iload_n (i := 2) C dX8_moves_59 rfl rfl ?_
          refine zq_icmp_ne (tgt := 77) C dX8_moves_60 rfl (fun h34 => ?_) (fun h34 => ?_)
          · have hJ := hJ.1 h34
            exact hj77 _ _ hJ
          · have hJ := hJ.2 h34
            refine zq_aload_n (i := 0) C dX8_moves_63 rfl rfl ?_
            refine zq_iload C dX8_moves_64 rfl ?_
            refine zq_iconst (x := 2) C dX8_moves_66 rfl ik_2 ?_
            refine zq_callVi C [zi r1, zi 2] (wM_of l _ _ _  hJ) ck_X8_48 iv_X8_of rfl sm0 rfl rfl rfl rfl rfl rfl dX8_moves_67 (fun r31 N32 hN32 => ?_)
            obtain ⟨rfl, hJ⟩ := hN32
            refine zq_iload_n (i := 3) C dX8_moves_70 rfl rfl ?_
            refine zq_icmp_ne (tgt := 77) C dX8_moves_71 rfl (fun h33 => ?_) (fun h33 => ?_)
            · have hJ := hJ.1 h33
              exact hj77 _ _ hJ
            · have hJ := hJ.2 h33
              refine zq_bipush (x := (-5)) C dX8_moves_74 bi_m5 ik_m5 ?_
              exact zq_iret C rfl ⟨_, rfl, hJ⟩ dX8_moves_76
        · have hJ := hJ.2 h35
          refine zq_bipush (x := (-2)) C dX8_moves_49 bi_m2 ik_m2 ?_
          exact zq_iret C rfl ⟨_, rfl, hJ⟩ dX8_moves_51
    · have hJ := hJ.2 h37
      refine zq_iconst (x := (-1)) C dX8_moves_21 rfl ik_m1 ?_
      exact zq_iret C rfl ⟨_, rfl, hJ⟩ dX8_moves_22
set_option maxRecDepth 100000 in
set_option maxHeartbeats 4000000 in
theorem wM_swapLanes (l : Launch) (a1 a2 : Int) (M : zM) {Φ : zM → Prop} (hJ : jM_swapLanes a1 a2 M Φ) : zMet l yX8_swapLanes cX8_swapLanes 5 none 1 22 shM [zr 0, zi a1, zi a2] M (zU Φ) := by
  refine zq_enter [some (zr 0), some (zi a1), some (zi a2), none, none] (by decide) rfl (Nat.le_of_ble_eq_true rfl) rfl (fun X C => ?_)
  unfold jM_swapLanes at hJ
  have hl2 : ∀ (s : Int × zM), zwh (fun K s => jM_swapLanes_L2 a1 a2 K Φ (s.1) (s.2)) s → zG X (s.2) 2 [some (zr 0), some (zi a1), some (zi a2), some (zi (s.1)), none] [] := by
    refine zwh_sound ?_
    intro K2 s hK2 hJ
    obtain ⟨x3, M⟩ := s
    have hJ : jM_swapLanes_L2 a1 a2 K2 Φ x3 M := hJ
    show zG X M 2 [some (zr 0), some (zi a1), some (zi a2), some (zi x3), none] []
    unfold jM_swapLanes_L2 at hJ
    have hj53 : ∀ (x3 s1 s2 : Int) (M : zM), jM_swapLanes_J53 a1 a2 K2 Φ x3 s1 s2 M → zG X M 53 [some (zr 0), some (zi a1), some (zi a2), some (zi x3), none] [zi s2, zi s1, zr 1] := by
      intro x3 s1 s2 M hJ
      unfold jM_swapLanes_J53 at hJ
      obtain ⟨h6, h6', hJ⟩ := hJ
      refine zq_iast C sm1 h6 h6' dX8_swapLanes_53 (fun M7 hM7 => ?_)
      have hJ := hJ M7 hM7
      obtain ⟨hv3_8, hJ⟩ := hJ
      refine zq_iinc (y := x3 + 1) (lv' := [some (zr 0), some (zi a1), some (zi a2), some (zi (x3 + 1)), none]) C dX8_swapLanes_54 rfl rfl hv3_8 rfl ?_
      obtain ⟨v3_8, ev3_8⟩ : ∃ z, z = x3 + 1 := ⟨_, rfl⟩
      rw [← ev3_8]
      have hJ := hJ v3_8 ev3_8
      refine zq_goto (tgt := 2) C dX8_swapLanes_57 rfl ?_
      exact hK2 _ hJ
    refine zq_iload_n (i := 3) C dX8_swapLanes_2 rfl rfl ?_
    refine zq_aload_n (i := 0) C dX8_swapLanes_3 rfl rfl ?_
    refine zq_getr C fk_X8_7 sm0 rfl dX8_swapLanes_4 ?_
    refine zq_iconst (x := 0) C dX8_swapLanes_7 rfl ik_0 ?_
    refine zq_iald C sm1 (by decide) (by decide) dX8_swapLanes_8 ?_
    refine zq_icmp_ge (tgt := 60) C dX8_swapLanes_9 rfl (fun h11 => ?_) (fun h11 => ?_)
    · have hJ := hJ.1 h11
      exact zq_vret C rfl hJ dX8_swapLanes_60
    · have hJ := hJ.2 h11
      refine zq_aload_n (i := 0) C dX8_swapLanes_12 rfl rfl ?_
      refine zq_iload_n (i := 3) C dX8_swapLanes_13 rfl rfl ?_
      refine zq_iconst (x := 1) C dX8_swapLanes_14 rfl ik_1 ?_
      refine zq_callVi C [zi x3, zi 1] (wM_of l _ _ _  hJ) ck_X8_48 iv_X8_of rfl sm0 rfl rfl rfl rfl rfl rfl dX8_swapLanes_15 (fun r1 N2 hN2 => ?_)
      obtain ⟨rfl, hJ⟩ := hN2
      refine zq_istore (lv' := [some (zr 0), some (zi a1), some (zi a2), some (zi x3), some (zi r1)]) C dX8_swapLanes_18 (Nat.le_of_ble_eq_true rfl) rfl ?_
      refine zq_aload_n (i := 0) C dX8_swapLanes_20 rfl rfl ?_
      refine zq_getr C fk_X8_7 sm0 rfl dX8_swapLanes_21 ?_
      refine zq_iconst (x := 1) C dX8_swapLanes_24 rfl ik_1 ?_
      refine zq_iconst (x := 4) C dX8_swapLanes_25 rfl ik_4 ?_
      refine zq_iload_n (i := 3) C dX8_swapLanes_26 rfl rfl ?_
      obtain ⟨h3, hJ⟩ := hJ
      refine zq_imul C dX8_swapLanes_27 h3 ?_
      obtain ⟨h4, hJ⟩ := hJ
      refine zq_iadd C dX8_swapLanes_28 h4 ?_
      refine zq_iconst (x := 1) C dX8_swapLanes_29 rfl ik_1 ?_
      obtain ⟨h5, hJ⟩ := hJ
      refine zq_iadd C dX8_swapLanes_30 h5 ?_
      refine zq_iload C dX8_swapLanes_31 rfl ?_
      refine zq_iload_n (i := 1) C dX8_swapLanes_33 rfl rfl ?_
      refine zq_icmp_ne (tgt := 41) C dX8_swapLanes_34 rfl (fun h10 => ?_) (fun h10 => ?_)
      · have hJ := hJ.1 h10
        refine zq_iload C dX8_swapLanes_41 rfl ?_
        refine zq_iload_n (i := 2) C dX8_swapLanes_43 rfl rfl ?_
        refine zq_icmp_ne (tgt := 51) C dX8_swapLanes_44 rfl (fun h9 => ?_) (fun h9 => ?_)
        · have hJ := hJ.1 h9
          refine zq_iload C dX8_swapLanes_51 rfl ?_
          refine zq_weak [some (zr 0), some (zi a1), some (zi a2), some (zi x3), none] ⟨Or.inr rfl, Or.inr rfl, Or.inr rfl, Or.inr rfl, Or.inl rfl, trivial⟩ ?_
          exact hj53 _ _ _ _ hJ
        · have hJ := hJ.2 h9
          refine zq_iload_n (i := 1) C dX8_swapLanes_47 rfl rfl ?_
          refine zq_goto (tgt := 53) C dX8_swapLanes_48 rfl ?_
          refine zq_weak [some (zr 0), some (zi a1), some (zi a2), some (zi x3), none] ⟨Or.inr rfl, Or.inr rfl, Or.inr rfl, Or.inr rfl, Or.inl rfl, trivial⟩ ?_
          exact hj53 _ _ _ _ hJ
      · have hJ := hJ.2 h10
        refine zq_iload_n (i := 2) C dX8_swapLanes_37 rfl rfl ?_
        refine zq_goto (tgt := 53) C dX8_swapLanes_38 rfl ?_
        refine zq_weak [some (zr 0), some (zi a1), some (zi a2), some (zi x3), none] ⟨Or.inr rfl, Or.inr rfl, Or.inr rfl, Or.inr rfl, Or.inl rfl, trivial⟩ ?_
        exact hj53 _ _ _ _ hJ
  refine zq_iconst (x := 0) C dX8_swapLanes_0 rfl ik_0 ?_
  refine zq_istore_n (i := 3) (lv' := [some (zr 0), some (zi a1), some (zi a2), some (zi 0), none]) C dX8_swapLanes_1 rfl (Nat.le_of_ble_eq_true rfl) rfl ?_
  exact hl2 _ hJ
set_option maxRecDepth 100000 in
set_option maxHeartbeats 4000000 in
theorem wM_swaps (l : Launch) (a1 a2 : Int) (M : zM) {Φ : Int → zM → Prop} (hJ : jM_swaps a1 a2 M Φ) : zMet l yX8_swaps cX8_swaps 3 (some .int) 7 161 shM [zr 0, zi a1, zi a2] M (zI Φ) := by
  refine zq_enter [some (zr 0), some (zi a1), some (zi a2)] (by decide) rfl (Nat.le_of_ble_eq_true rfl) rfl (fun X C => ?_)
  unfold jM_swaps at hJ
  have hj40 : ∀ (M : zM), jM_swaps_J40 a1 a2 Φ M → zG X M 40 [some (zr 0), some (zi a1), some (zi a2)] [] := by
    intro M hJ
    unfold jM_swaps_J40 at hJ
    refine zq_aload_n (i := 0) C dX8_swaps_40 rfl rfl ?_
    refine zq_iload_n (i := 1) C dX8_swaps_41 rfl rfl ?_
    refine zq_iload_n (i := 2) C dX8_swaps_42 rfl rfl ?_
    refine zq_callVv C [zi a1, zi a2] (wM_swapLanes l _ _ _  hJ) ck_X8_150 iv_X8_swapLanes rfl sm0 rfl rfl rfl rfl rfl rfl dX8_swaps_43 (fun M7 hJ => ?_)
    refine zq_aload_n (i := 0) C dX8_swaps_46 rfl rfl ?_
    refine zq_callVi C [] (wM_notDrawn l _  hJ) ck_X8_147 iv_X8_notDrawn rfl sm0 rfl rfl rfl rfl rfl rfl dX8_swaps_47 (fun r8 N9 hN9 => ?_)
    obtain ⟨rfl, hJ⟩ := hN9
    exact zq_iret C rfl ⟨_, rfl, hJ⟩ dX8_swaps_50
  refine zq_iload_n (i := 1) C dX8_swaps_0 rfl rfl ?_
  refine zq_callSi C [zi a1] (wM_isLane l _ _  hJ) ck_X8_130 st_X8_isLane rfl rfl rfl rfl rfl rfl dX8_swaps_1 (fun r1 N2 hN2 => ?_)
  obtain ⟨rfl, hJ⟩ := hN2
  refine zq_if_eq (tgt := 14) C dX8_swaps_4 rfl (fun h16 => ?_) (fun h16 => ?_)
  · have hJ := hJ.1 h16
    refine zq_iconst (x := (-1)) C dX8_swaps_14 rfl ik_m1 ?_
    exact zq_iret C rfl ⟨_, rfl, hJ⟩ dX8_swaps_15
  · have hJ := hJ.2 h16
    refine zq_iload_n (i := 2) C dX8_swaps_7 rfl rfl ?_
    refine zq_callSi C [zi a2] (wM_isLane l _ _  hJ) ck_X8_130 st_X8_isLane rfl rfl rfl rfl rfl rfl dX8_swaps_8 (fun r3 N4 hN4 => ?_)
    obtain ⟨rfl, hJ⟩ := hN4
    refine zq_if_ne (tgt := 16) C dX8_swaps_11 rfl (fun h15 => ?_) (fun h15 => ?_)
    · have hJ := hJ.1 h15
      refine zq_iload_n (i := 1) C dX8_swaps_16 rfl rfl ?_
      refine zq_iload_n (i := 2) C dX8_swaps_17 rfl rfl ?_
      refine zq_icmp_eq (tgt := 37) C dX8_swaps_18 rfl (fun h14 => ?_) (fun h14 => ?_)
      · have hJ := hJ.1 h14
        refine zq_bipush (x := (-5)) C dX8_swaps_37 bi_m5 ik_m5 ?_
        exact zq_iret C rfl ⟨_, rfl, hJ⟩ dX8_swaps_39
      · have hJ := hJ.2 h14
        refine zq_aload_n (i := 0) C dX8_swaps_21 rfl rfl ?_
        refine zq_iload_n (i := 1) C dX8_swaps_22 rfl rfl ?_
        refine zq_callVi C [zi a1] (wM_hasBars l _ _  hJ) ck_X8_66 iv_X8_hasBars rfl sm0 rfl rfl rfl rfl rfl rfl dX8_swaps_23 (fun r5 N6 hN6 => ?_)
        obtain ⟨rfl, hJ⟩ := hN6
        refine zq_if_ne (tgt := 40) C dX8_swaps_26 rfl (fun h13 => ?_) (fun h13 => ?_)
        · have hJ := hJ.1 h13
          exact hj40 _ hJ
        · have hJ := hJ.2 h13
          refine zq_aload_n (i := 0) C dX8_swaps_29 rfl rfl ?_
          refine zq_iload_n (i := 2) C dX8_swaps_30 rfl rfl ?_
          refine zq_callVi C [zi a2] (wM_hasBars l _ _  hJ) ck_X8_66 iv_X8_hasBars rfl sm0 rfl rfl rfl rfl rfl rfl dX8_swaps_31 (fun r10 N11 hN11 => ?_)
          obtain ⟨rfl, hJ⟩ := hN11
          refine zq_if_ne (tgt := 40) C dX8_swaps_34 rfl (fun h12 => ?_) (fun h12 => ?_)
          · have hJ := hJ.1 h12
            exact hj40 _ hJ
          · have hJ := hJ.2 h12
            refine zq_bipush (x := (-5)) C dX8_swaps_37 bi_m5 ik_m5 ?_
            exact zq_iret C rfl ⟨_, rfl, hJ⟩ dX8_swaps_39
    · have hJ := hJ.2 h15
      refine zq_iconst (x := (-1)) C dX8_swaps_14 rfl ik_m1 ?_
      exact zq_iret C rfl ⟨_, rfl, hJ⟩ dX8_swaps_15
set_option maxRecDepth 100000 in
set_option maxHeartbeats 4000000 in
theorem wM_nextByDay (l : Launch) (a1 : Int) (M : zM) {Φ : Int → Prop} (hJ : jM_nextByDay a1 M Φ) : zMet l yX8_nextByDay cX8_nextByDay 6 (some .int) 1 22 shM [zr 0, zi a1] M (zI (fun z M' => M = M' ∧ Φ z)) := by
  refine zq_enter [some (zr 0), some (zi a1), none, none, none, none] (by decide) rfl (Nat.le_of_ble_eq_true rfl) rfl (fun X C => ?_)
  unfold jM_nextByDay at hJ
  have hl5 : ∀ (s : Int × Int), zwh (fun K s => jM_nextByDay_L5 a1 K Φ M (s.1) (s.2)) s → zG X M 5 [some (zr 0), some (zi a1), some (zi (s.1)), some (zi (s.2)), none, none] [] := by
    refine zwh_sound ?_
    intro K5 s hK5 hJ
    obtain ⟨x2, x3⟩ := s
    have hJ : jM_nextByDay_L5 a1 K5 Φ M x2 x3 := hJ
    show zG X M 5 [some (zr 0), some (zi a1), some (zi x2), some (zi x3), none, none] []
    unfold jM_nextByDay_L5 at hJ
    have hj89 : ∀ (x2 x3 x4 s0 : Int), jM_nextByDay_J89 a1 K5 Φ x2 x3 x4 s0 M → zG X M 89 [some (zr 0), some (zi a1), some (zi x2), some (zi x3), some (zi x4), none] [zi s0] := by
      intro x2 x3 x4 s0 hJ
      unfold jM_nextByDay_J89 at hJ
      refine zq_istore (lv' := [some (zr 0), some (zi a1), some (zi x2), some (zi x3), some (zi x4), some (zi s0)]) C dX8_nextByDay_89 (Nat.le_of_ble_eq_true rfl) rfl ?_
      refine zq_iload C dX8_nextByDay_91 rfl ?_
      refine zq_if_eq (tgt := 105) C dX8_nextByDay_93 rfl (fun h5 => ?_) (fun h5 => ?_)
      · have hJ := hJ.1 h5
        refine zq_iload_n (i := 2) C dX8_nextByDay_105 rfl rfl ?_
        refine zq_istore_n (i := 2) (lv' := [some (zr 0), some (zi a1), some (zi x2), some (zi x3), some (zi x4), some (zi s0)]) C dX8_nextByDay_106 rfl (Nat.le_of_ble_eq_true rfl) rfl ?_
        obtain ⟨hv3_1, hJ⟩ := hJ
        refine zq_iinc (y := x3 + 1) (lv' := [some (zr 0), some (zi a1), some (zi x2), some (zi (x3 + 1)), some (zi x4), some (zi s0)]) C dX8_nextByDay_107 rfl rfl hv3_1 rfl ?_
        obtain ⟨v3_1, ev3_1⟩ : ∃ z, z = x3 + 1 := ⟨_, rfl⟩
        rw [← ev3_1]
        have hJ := hJ v3_1 ev3_1
        refine zq_goto (tgt := 5) C dX8_nextByDay_110 rfl ?_
        refine zq_weak [some (zr 0), some (zi a1), some (zi x2), some (zi v3_1), none, none] ⟨Or.inr rfl, Or.inr rfl, Or.inr rfl, Or.inr rfl, Or.inl rfl, Or.inl rfl, trivial⟩ ?_
        exact hK5 _ hJ
      · have hJ := hJ.2 h5
        refine zq_iload C dX8_nextByDay_96 rfl ?_
        refine zq_if_eq (tgt := 105) C dX8_nextByDay_98 rfl (fun h4 => ?_) (fun h4 => ?_)
        · have hJ := hJ.1 h4
          refine zq_iload_n (i := 2) C dX8_nextByDay_105 rfl rfl ?_
          refine zq_istore_n (i := 2) (lv' := [some (zr 0), some (zi a1), some (zi x2), some (zi x3), some (zi x4), some (zi s0)]) C dX8_nextByDay_106 rfl (Nat.le_of_ble_eq_true rfl) rfl ?_
          obtain ⟨hv3_2, hJ⟩ := hJ
          refine zq_iinc (y := x3 + 1) (lv' := [some (zr 0), some (zi a1), some (zi x2), some (zi (x3 + 1)), some (zi x4), some (zi s0)]) C dX8_nextByDay_107 rfl rfl hv3_2 rfl ?_
          obtain ⟨v3_2, ev3_2⟩ : ∃ z, z = x3 + 1 := ⟨_, rfl⟩
          rw [← ev3_2]
          have hJ := hJ v3_2 ev3_2
          refine zq_goto (tgt := 5) C dX8_nextByDay_110 rfl ?_
          refine zq_weak [some (zr 0), some (zi a1), some (zi x2), some (zi v3_2), none, none] ⟨Or.inr rfl, Or.inr rfl, Or.inr rfl, Or.inr rfl, Or.inl rfl, Or.inl rfl, trivial⟩ ?_
          exact hK5 _ hJ
        · have hJ := hJ.2 h4
          refine zq_iload_n (i := 3) C dX8_nextByDay_101 rfl rfl ?_
          refine zq_goto (tgt := 106) C dX8_nextByDay_102 rfl ?_
          refine zq_istore_n (i := 2) (lv' := [some (zr 0), some (zi a1), some (zi x3), some (zi x3), some (zi x4), some (zi s0)]) C dX8_nextByDay_106 rfl (Nat.le_of_ble_eq_true rfl) rfl ?_
          obtain ⟨hv3_3, hJ⟩ := hJ
          refine zq_iinc (y := x3 + 1) (lv' := [some (zr 0), some (zi a1), some (zi x3), some (zi (x3 + 1)), some (zi x4), some (zi s0)]) C dX8_nextByDay_107 rfl rfl hv3_3 rfl ?_
          obtain ⟨v3_3, ev3_3⟩ : ∃ z, z = x3 + 1 := ⟨_, rfl⟩
          rw [← ev3_3]
          have hJ := hJ v3_3 ev3_3
          refine zq_goto (tgt := 5) C dX8_nextByDay_110 rfl ?_
          refine zq_weak [some (zr 0), some (zi a1), some (zi x3), some (zi v3_3), none, none] ⟨Or.inr rfl, Or.inr rfl, Or.inr rfl, Or.inr rfl, Or.inl rfl, Or.inl rfl, trivial⟩ ?_
          exact hK5 _ hJ
    have hj84 : ∀ (x2 x3 x4 : Int), jM_nextByDay_J84 a1 K5 Φ x2 x3 x4 M → zG X M 84 [some (zr 0), some (zi a1), some (zi x2), some (zi x3), some (zi x4), none] [] := by
      intro x2 x3 x4 hJ
      unfold jM_nextByDay_J84 at hJ
      refine zq_iconst (x := 1) C dX8_nextByDay_84 rfl ik_1 ?_
      refine zq_goto (tgt := 89) C dX8_nextByDay_85 rfl ?_
      exact hj89 _ _ _ _ hJ
    have hj61 : ∀ (x2 x3 s0 : Int), jM_nextByDay_J61 a1 K5 Φ x2 x3 s0 M → zG X M 61 [some (zr 0), some (zi a1), some (zi x2), some (zi x3), none, none] [zi s0] := by
      intro x2 x3 s0 hJ
      unfold jM_nextByDay_J61 at hJ
      refine zq_istore (lv' := [some (zr 0), some (zi a1), some (zi x2), some (zi x3), some (zi s0), none]) C dX8_nextByDay_61 (Nat.le_of_ble_eq_true rfl) rfl ?_
      refine zq_iload_n (i := 2) C dX8_nextByDay_63 rfl rfl ?_
      refine zq_bipush (x := (-5)) C dX8_nextByDay_64 bi_m5 ik_m5 ?_
      refine zq_icmp_eq (tgt := 84) C dX8_nextByDay_66 rfl (fun h11 => ?_) (fun h11 => ?_)
      · have hJ := hJ.1 h11
        exact hj84 _ _ _ hJ
      · have hJ := hJ.2 h11
        refine zq_aload_n (i := 0) C dX8_nextByDay_69 rfl rfl ?_
        refine zq_iload_n (i := 3) C dX8_nextByDay_70 rfl rfl ?_
        refine zq_iconst (x := 2) C dX8_nextByDay_71 rfl ik_2 ?_
        refine zq_callVi C [zi x3, zi 2] (wM_of l _ _ _  hJ) ck_X8_48 iv_X8_of rfl sm0 rfl rfl rfl rfl rfl rfl dX8_nextByDay_72 (fun r6 N7 hN7 => ?_)
        obtain ⟨rfl, hJ⟩ := hN7
        refine zq_aload_n (i := 0) C dX8_nextByDay_75 rfl rfl ?_
        refine zq_iload_n (i := 2) C dX8_nextByDay_76 rfl rfl ?_
        refine zq_iconst (x := 2) C dX8_nextByDay_77 rfl ik_2 ?_
        refine zq_callVi C [zi x2, zi 2] (wM_of l _ _ _  hJ) ck_X8_48 iv_X8_of rfl sm0 rfl rfl rfl rfl rfl rfl dX8_nextByDay_78 (fun r8 N9 hN9 => ?_)
        obtain ⟨rfl, hJ⟩ := hN9
        refine zq_icmp_ge (tgt := 88) C dX8_nextByDay_81 rfl (fun h10 => ?_) (fun h10 => ?_)
        · have hJ := hJ.1 h10
          refine zq_iconst (x := 0) C dX8_nextByDay_88 rfl ik_0 ?_
          exact hj89 _ _ _ _ hJ
        · have hJ := hJ.2 h10
          exact hj84 _ _ _ hJ
    have hj56 : ∀ (x2 x3 : Int), jM_nextByDay_J56 a1 K5 Φ x2 x3 M → zG X M 56 [some (zr 0), some (zi a1), some (zi x2), some (zi x3), none, none] [] := by
      intro x2 x3 hJ
      unfold jM_nextByDay_J56 at hJ
      refine zq_iconst (x := 1) C dX8_nextByDay_56 rfl ik_1 ?_
      refine zq_goto (tgt := 61) C dX8_nextByDay_57 rfl ?_
      exact hj61 _ _ _ hJ
    have hj60 : ∀ (x2 x3 : Int), jM_nextByDay_J60 a1 K5 Φ x2 x3 M → zG X M 60 [some (zr 0), some (zi a1), some (zi x2), some (zi x3), none, none] [] := by
      intro x2 x3 hJ
      unfold jM_nextByDay_J60 at hJ
      refine zq_iconst (x := 0) C dX8_nextByDay_60 rfl ik_0 ?_
      exact hj61 _ _ _ hJ
    refine zq_iload_n (i := 3) C dX8_nextByDay_5 rfl rfl ?_
    refine zq_aload_n (i := 0) C dX8_nextByDay_6 rfl rfl ?_
    refine zq_getr C fk_X8_7 sm0 rfl dX8_nextByDay_7 ?_
    refine zq_iconst (x := 0) C dX8_nextByDay_10 rfl ik_0 ?_
    refine zq_iald C sm1 (by decide) (by decide) dX8_nextByDay_11 ?_
    refine zq_icmp_ge (tgt := 113) C dX8_nextByDay_12 rfl (fun h24 => ?_) (fun h24 => ?_)
    · have hJ := hJ.1 h24
      refine zq_iload_n (i := 2) C dX8_nextByDay_113 rfl rfl ?_
      exact zq_iret C rfl ⟨_, rfl, rfl, hJ⟩ dX8_nextByDay_114
    · have hJ := hJ.2 h24
      refine zq_iload_n (i := 1) C dX8_nextByDay_15 rfl rfl ?_
      refine zq_bipush (x := (-5)) C dX8_nextByDay_16 bi_m5 ik_m5 ?_
      refine zq_icmp_eq (tgt := 56) C dX8_nextByDay_18 rfl (fun h23 => ?_) (fun h23 => ?_)
      · have hJ := hJ.1 h23
        exact hj56 _ _ hJ
      · have hJ := hJ.2 h23
        refine zq_aload_n (i := 0) C dX8_nextByDay_21 rfl rfl ?_
        refine zq_iload_n (i := 3) C dX8_nextByDay_22 rfl rfl ?_
        refine zq_iconst (x := 2) C dX8_nextByDay_23 rfl ik_2 ?_
        refine zq_callVi C [zi x3, zi 2] (wM_of l _ _ _  hJ) ck_X8_48 iv_X8_of rfl sm0 rfl rfl rfl rfl rfl rfl dX8_nextByDay_24 (fun r12 N13 hN13 => ?_)
        obtain ⟨rfl, hJ⟩ := hN13
        refine zq_aload_n (i := 0) C dX8_nextByDay_27 rfl rfl ?_
        refine zq_iload_n (i := 1) C dX8_nextByDay_28 rfl rfl ?_
        refine zq_iconst (x := 2) C dX8_nextByDay_29 rfl ik_2 ?_
        refine zq_callVi C [zi a1, zi 2] (wM_of l _ _ _  hJ) ck_X8_48 iv_X8_of rfl sm0 rfl rfl rfl rfl rfl rfl dX8_nextByDay_30 (fun r14 N15 hN15 => ?_)
        obtain ⟨rfl, hJ⟩ := hN15
        refine zq_icmp_gt (tgt := 56) C dX8_nextByDay_33 rfl (fun h22 => ?_) (fun h22 => ?_)
        · have hJ := hJ.1 h22
          exact hj56 _ _ hJ
        · have hJ := hJ.2 h22
          refine zq_aload_n (i := 0) C dX8_nextByDay_36 rfl rfl ?_
          refine zq_iload_n (i := 3) C dX8_nextByDay_37 rfl rfl ?_
          refine zq_iconst (x := 2) C dX8_nextByDay_38 rfl ik_2 ?_
          refine zq_callVi C [zi x3, zi 2] (wM_of l _ _ _  hJ) ck_X8_48 iv_X8_of rfl sm0 rfl rfl rfl rfl rfl rfl dX8_nextByDay_39 (fun r16 N17 hN17 => ?_)
          obtain ⟨rfl, hJ⟩ := hN17
          refine zq_aload_n (i := 0) C dX8_nextByDay_42 rfl rfl ?_
          refine zq_iload_n (i := 1) C dX8_nextByDay_43 rfl rfl ?_
          refine zq_iconst (x := 2) C dX8_nextByDay_44 rfl ik_2 ?_
          refine zq_callVi C [zi a1, zi 2] (wM_of l _ _ _  hJ) ck_X8_48 iv_X8_of rfl sm0 rfl rfl rfl rfl rfl rfl dX8_nextByDay_45 (fun r18 N19 hN19 => ?_)
          obtain ⟨rfl, hJ⟩ := hN19
          refine zq_icmp_ne (tgt := 60) C dX8_nextByDay_48 rfl (fun h21 => ?_) (fun h21 => ?_)
          · have hJ := hJ.1 h21
            exact hj60 _ _ hJ
          · have hJ := hJ.2 h21
            refine zq_iload_n (i := 3) C dX8_nextByDay_51 rfl rfl ?_
            refine zq_iload_n (i := 1) C dX8_nextByDay_52 rfl rfl ?_
            refine zq_icmp_le (tgt := 60) C dX8_nextByDay_53 rfl (fun h20 => ?_) (fun h20 => ?_)
            · have hJ := hJ.1 h20
              exact hj60 _ _ hJ
            · have hJ := hJ.2 h20
              exact hj56 _ _ hJ
  refine zq_bipush (x := (-5)) C dX8_nextByDay_0 bi_m5 ik_m5 ?_
  refine zq_istore_n (i := 2) (lv' := [some (zr 0), some (zi a1), some (zi (-5)), none, none, none]) C dX8_nextByDay_2 rfl (Nat.le_of_ble_eq_true rfl) rfl ?_
  refine zq_iconst (x := 0) C dX8_nextByDay_3 rfl ik_0 ?_
  refine zq_istore_n (i := 3) (lv' := [some (zr 0), some (zi a1), some (zi (-5)), some (zi 0), none, none]) C dX8_nextByDay_4 rfl (Nat.le_of_ble_eq_true rfl) rfl ?_
  exact hl5 _ hJ
set_option maxRecDepth 100000 in
set_option maxHeartbeats 4000000 in
theorem wM_packs (l : Launch)  (M : zM) {Φ : Int → zM → Prop} (hJ : jM_packs  M Φ) : zMet l yX8_packs cX8_packs 3 (some .int) 5 111 shM [zr 0] M (zI Φ) := by
  refine zq_enter [some (zr 0), none, none] (by decide) rfl (Nat.le_of_ble_eq_true rfl) rfl (fun X C => ?_)
  unfold jM_packs at hJ
  have hl118 : ∀ (M : zM) (s : Int × Int), zwh (fun K s => jM_packs_L118  K Φ M (s.1) (s.2)) s → zG X M 118 [some (zr 0), some (zi (s.1)), some (zi (s.2))] [] := by
    intro M
    refine zwh_sound ?_
    intro K118 s hK118 hJ
    obtain ⟨x1, x2⟩ := s
    have hJ : jM_packs_L118  K118 Φ M x1 x2 := hJ
    show zG X M 118 [some (zr 0), some (zi x1), some (zi x2)] []
    unfold jM_packs_L118 at hJ
    refine zq_iload_n (i := 2) C dX8_packs_118 rfl rfl ?_
    refine zq_aload_n (i := 0) C dX8_packs_119 rfl rfl ?_
    refine zq_getr C fk_X8_7 sm0 rfl dX8_packs_120 ?_
    refine zq_iconst (x := 0) C dX8_packs_123 rfl ik_0 ?_
    refine zq_iald C sm1 (by decide) (by decide) dX8_packs_124 ?_
    refine zq_icmp_ge (tgt := 163) C dX8_packs_125 rfl (fun h19 => ?_) (fun h19 => ?_)
    · have hJ := hJ.1 h19
      refine zq_iload_n (i := 1) C dX8_packs_163 rfl rfl ?_
      refine zq_if_ne (tgt := 172) C dX8_packs_164 rfl (fun h5 => ?_) (fun h5 => ?_)
      · have hJ := hJ.1 h5
        refine zq_aload_n (i := 0) C dX8_packs_172 rfl rfl ?_
        refine zq_callVi C [] (wM_lanes l _  hJ) ck_X8_157 iv_X8_lanes rfl sm0 rfl rfl rfl rfl rfl rfl dX8_packs_173 (fun r3 N4 hN4 => ?_)
        obtain ⟨rfl, hJ⟩ := hN4
        exact zq_iret C rfl ⟨_, rfl, hJ⟩ dX8_packs_176
      · have hJ := hJ.2 h5
        refine zq_bipush (x := (-5)) C dX8_packs_167 bi_m5 ik_m5 ?_
        refine zq_goto (tgt := 176) C dX8_packs_169 rfl ?_
        exact zq_iret C rfl ⟨_, rfl, hJ⟩ dX8_packs_176
    · have hJ := hJ.2 h19
      refine zq_iload_n (i := 1) C dX8_packs_128 rfl rfl ?_
      refine zq_aload_n (i := 0) C dX8_packs_129 rfl rfl ?_
      refine zq_iload_n (i := 2) C dX8_packs_130 rfl rfl ?_
      refine zq_iconst (x := 1) C dX8_packs_131 rfl ik_1 ?_
      refine zq_callVi C [zi x2, zi 1] (wM_of l _ _ _  hJ) ck_X8_48 iv_X8_of rfl sm0 rfl rfl rfl rfl rfl rfl dX8_packs_132 (fun r6 N7 hN7 => ?_)
      obtain ⟨rfl, hJ⟩ := hN7
      refine zq_aload_n (i := 0) C dX8_packs_135 rfl rfl ?_
      refine zq_getr C fk_X8_13 sm0 rfl dX8_packs_136 ?_
      refine zq_iconst (x := 1) C dX8_packs_139 rfl ik_1 ?_
      refine zq_iconst (x := 4) C dX8_packs_140 rfl ik_4 ?_
      refine zq_iload_n (i := 2) C dX8_packs_141 rfl rfl ?_
      obtain ⟨h8, hJ⟩ := hJ
      refine zq_imul C dX8_packs_142 h8 ?_
      obtain ⟨h9, hJ⟩ := hJ
      refine zq_iadd C dX8_packs_143 h9 ?_
      refine zq_iconst (x := 1) C dX8_packs_144 rfl ik_1 ?_
      obtain ⟨h10, hJ⟩ := hJ
      refine zq_iadd C dX8_packs_145 h10 ?_
      obtain ⟨h11, h11', hJ⟩ := hJ
      refine zq_iald C sm2 h11 h11' dX8_packs_146 ?_
      refine zq_icmp_ne (tgt := 154) C dX8_packs_147 rfl (fun h18 => ?_) (fun h18 => ?_)
      · have hJ := hJ.1 h18
        refine zq_iconst (x := 1) C dX8_packs_154 rfl ik_1 ?_
        obtain ⟨h12, hJ⟩ := hJ
        refine zq_iadd C dX8_packs_155 h12 ?_
        refine zq_istoreN_n (i := 1) C (fun v => [some (zr 0), some (zi v), some (zi x2)]) dX8_packs_156 rfl (Nat.le_of_ble_eq_true rfl) (fun _ => rfl) (fun v1_13 hv1_13 => ?_)
        have hJ := hJ v1_13 hv1_13
        obtain ⟨hv2_14, hJ⟩ := hJ
        refine zq_iinc (y := x2 + 1) (lv' := [some (zr 0), some (zi v1_13), some (zi (x2 + 1))]) C dX8_packs_157 rfl rfl hv2_14 rfl ?_
        obtain ⟨v2_14, ev2_14⟩ : ∃ z, z = x2 + 1 := ⟨_, rfl⟩
        rw [← ev2_14]
        have hJ := hJ v2_14 ev2_14
        refine zq_goto (tgt := 118) C dX8_packs_160 rfl ?_
        exact hK118 _ hJ
      · have hJ := hJ.2 h18
        refine zq_iconst (x := 0) C dX8_packs_150 rfl ik_0 ?_
        refine zq_goto (tgt := 155) C dX8_packs_151 rfl ?_
        obtain ⟨h15, hJ⟩ := hJ
        refine zq_iadd C dX8_packs_155 h15 ?_
        refine zq_istoreN_n (i := 1) C (fun v => [some (zr 0), some (zi v), some (zi x2)]) dX8_packs_156 rfl (Nat.le_of_ble_eq_true rfl) (fun _ => rfl) (fun v1_16 hv1_16 => ?_)
        have hJ := hJ v1_16 hv1_16
        obtain ⟨hv2_17, hJ⟩ := hJ
        refine zq_iinc (y := x2 + 1) (lv' := [some (zr 0), some (zi v1_16), some (zi (x2 + 1))]) C dX8_packs_157 rfl rfl hv2_17 rfl ?_
        obtain ⟨v2_17, ev2_17⟩ : ∃ z, z = x2 + 1 := ⟨_, rfl⟩
        rw [← ev2_17]
        have hJ := hJ v2_17 ev2_17
        refine zq_goto (tgt := 118) C dX8_packs_160 rfl ?_
        exact hK118 _ hJ
  have hl38 : ∀ (s : Int × zM), zwh (fun K s => jM_packs_L38  K Φ (s.1) (s.2)) s → zG X (s.2) 38 [some (zr 0), some (zi (s.1)), none] [] := by
    refine zwh_sound ?_
    intro K38 s hK38 hJ
    obtain ⟨x1, M⟩ := s
    have hJ : jM_packs_L38  K38 Φ x1 M := hJ
    show zG X M 38 [some (zr 0), some (zi x1), none] []
    unfold jM_packs_L38 at hJ
    have hj83 : ∀ (x1 x2 : Int) (M : zM), jM_packs_J83 K38 Φ x1 x2 M → zG X M 83 [some (zr 0), some (zi x1), some (zi x2)] [] := by
      intro x1 x2 M hJ
      unfold jM_packs_J83 at hJ
      refine zq_iload_n (i := 2) C dX8_packs_83 rfl rfl ?_
      refine zq_bipush (x := 12) C dX8_packs_84 bi_12 ik_12 ?_
      refine zq_icmp_ne (tgt := 92) C dX8_packs_86 rfl (fun h27 => ?_) (fun h27 => ?_)
      · have hJ := hJ.1 h27
        refine zq_aload_n (i := 0) C dX8_packs_92 rfl rfl ?_
        refine zq_getr C fk_X8_7 sm0 rfl dX8_packs_93 ?_
        refine zq_iconst (x := 1) C dX8_packs_96 rfl ik_1 ?_
        refine zq_iconst (x := 4) C dX8_packs_97 rfl ik_4 ?_
        refine zq_iload_n (i := 1) C dX8_packs_98 rfl rfl ?_
        obtain ⟨h20, hJ⟩ := hJ
        refine zq_imul C dX8_packs_99 h20 ?_
        obtain ⟨h21, hJ⟩ := hJ
        refine zq_iadd C dX8_packs_100 h21 ?_
        refine zq_iconst (x := 1) C dX8_packs_101 rfl ik_1 ?_
        obtain ⟨h22, hJ⟩ := hJ
        refine zq_iadd C dX8_packs_102 h22 ?_
        refine zq_iload_n (i := 2) C dX8_packs_103 rfl rfl ?_
        obtain ⟨h23, h23', hJ⟩ := hJ
        refine zq_iast C sm1 h23 h23' dX8_packs_104 (fun M24 hM24 => ?_)
        have hJ := hJ M24 hM24
        refine zq_aload_n (i := 0) C dX8_packs_105 rfl rfl ?_
        refine zq_iload_n (i := 1) C dX8_packs_106 rfl rfl ?_
        refine zq_callVi C [zi x1] (wM_nextByDay l _ _  hJ) ck_X8_154 iv_X8_nextByDay rfl sm0 rfl rfl rfl rfl rfl rfl dX8_packs_107 (fun r25 N26 hN26 => ?_)
        obtain ⟨rfl, hJ⟩ := hN26
        refine zq_istore_n (i := 1) (lv' := [some (zr 0), some (zi r25), some (zi x2)]) C dX8_packs_110 rfl (Nat.le_of_ble_eq_true rfl) rfl ?_
        refine zq_goto (tgt := 38) C dX8_packs_111 rfl ?_
        refine zq_weak [some (zr 0), some (zi r25), none] ⟨Or.inr rfl, Or.inr rfl, Or.inl rfl, trivial⟩ ?_
        exact hK38 _ hJ
      · have hJ := hJ.2 h27
        refine zq_bipush (x := (-4)) C dX8_packs_89 bi_m4 ik_m4 ?_
        exact zq_iret C rfl ⟨_, rfl, hJ⟩ dX8_packs_91
    have hl46 : ∀ (x1 : Int) (M : zM) (s : Int), zwh (fun K s => jM_packs_L46 K38 K Φ x1 M (s)) s → zG X M 46 [some (zr 0), some (zi x1), some (zi s)] [] := by
      intro x1 M
      refine zwh_sound ?_
      intro K46 s hK46 hJ
      obtain ⟨x2, rfl⟩ : ∃ z, z = s := ⟨_, rfl⟩
      have hJ : jM_packs_L46 K38 K46 Φ x1 M x2 := hJ
      show zG X M 46 [some (zr 0), some (zi x1), some (zi x2)] []
      unfold jM_packs_L46 at hJ
      refine zq_iload_n (i := 2) C dX8_packs_46 rfl rfl ?_
      refine zq_bipush (x := 12) C dX8_packs_47 bi_12 ik_12 ?_
      refine zq_icmp_ge (tgt := 83) C dX8_packs_49 rfl (fun h37 => ?_) (fun h37 => ?_)
      · have hJ := hJ.1 h37
        exact hj83 _ _ _ hJ
      · have hJ := hJ.2 h37
        refine zq_aload_n (i := 0) C dX8_packs_52 rfl rfl ?_
        refine zq_iload_n (i := 2) C dX8_packs_53 rfl rfl ?_
        refine zq_aload_n (i := 0) C dX8_packs_54 rfl rfl ?_
        refine zq_iload_n (i := 1) C dX8_packs_55 rfl rfl ?_
        refine zq_iconst (x := 2) C dX8_packs_56 rfl ik_2 ?_
        refine zq_callVi C [zi x1, zi 2] (wM_of l _ _ _  hJ) ck_X8_48 iv_X8_of rfl sm0 rfl rfl rfl rfl rfl rfl dX8_packs_57 (fun r28 N29 hN29 => ?_)
        obtain ⟨rfl, hJ⟩ := hN29
        refine zq_aload_n (i := 0) C dX8_packs_60 rfl rfl ?_
        refine zq_iload_n (i := 1) C dX8_packs_61 rfl rfl ?_
        refine zq_callVi C [zi x1] (wM_end l _ _  hJ) ck_X8_56 iv_X8_end rfl sm0 rfl rfl rfl rfl rfl rfl dX8_packs_62 (fun r30 N31 hN31 => ?_)
        obtain ⟨rfl, hJ⟩ := hN31
        refine zq_iconst (x := 1) C dX8_packs_65 rfl ik_1 ?_
        obtain ⟨h32, hJ⟩ := hJ
        refine zq_isub C dX8_packs_66 h32 ?_
        refine zq_bipush (x := (-5)) C dX8_packs_67 bi_m5 ik_m5 ?_
        refine zq_callVi C [zi x2, zi r28, zi (r30 - 1), zi (-5)] (wM_within l _ _ _ _ _  hJ) ck_X8_62 iv_X8_within rfl sm0 rfl rfl rfl rfl rfl rfl dX8_packs_69 (fun r33 N34 hN34 => ?_)
        obtain ⟨rfl, hJ⟩ := hN34
        refine zq_bipush (x := (-5)) C dX8_packs_72 bi_m5 ik_m5 ?_
        refine zq_icmp_eq (tgt := 83) C dX8_packs_74 rfl (fun h36 => ?_) (fun h36 => ?_)
        · have hJ := hJ.1 h36
          exact hj83 _ _ _ hJ
        · have hJ := hJ.2 h36
          obtain ⟨hv2_35, hJ⟩ := hJ
          refine zq_iinc (y := x2 + 1) (lv' := [some (zr 0), some (zi x1), some (zi (x2 + 1))]) C dX8_packs_77 rfl rfl hv2_35 rfl ?_
          obtain ⟨v2_35, ev2_35⟩ : ∃ z, z = x2 + 1 := ⟨_, rfl⟩
          rw [← ev2_35]
          have hJ := hJ v2_35 ev2_35
          refine zq_goto (tgt := 46) C dX8_packs_80 rfl ?_
          exact hK46 _ hJ
    refine zq_iload_n (i := 1) C dX8_packs_38 rfl rfl ?_
    refine zq_bipush (x := (-5)) C dX8_packs_39 bi_m5 ik_m5 ?_
    refine zq_icmp_eq (tgt := 114) C dX8_packs_41 rfl (fun h38 => ?_) (fun h38 => ?_)
    · have hJ := hJ.1 h38
      refine zq_iconst (x := 0) C dX8_packs_114 rfl ik_0 ?_
      refine zq_istore_n (i := 1) (lv' := [some (zr 0), some (zi 0), none]) C dX8_packs_115 rfl (Nat.le_of_ble_eq_true rfl) rfl ?_
      refine zq_iconst (x := 0) C dX8_packs_116 rfl ik_0 ?_
      refine zq_istore_n (i := 2) (lv' := [some (zr 0), some (zi 0), some (zi 0)]) C dX8_packs_117 rfl (Nat.le_of_ble_eq_true rfl) rfl ?_
      exact hl118 _ _ hJ
    · have hJ := hJ.2 h38
      refine zq_iconst (x := 0) C dX8_packs_44 rfl ik_0 ?_
      refine zq_istore_n (i := 2) (lv' := [some (zr 0), some (zi x1), some (zi 0)]) C dX8_packs_45 rfl (Nat.le_of_ble_eq_true rfl) rfl ?_
      exact hl46 _ _ _ hJ
  have hl2 : ∀ (s : Int × zM), zwh (fun K s => jM_packs_L2  K Φ (s.1) (s.2)) s → zG X (s.2) 2 [some (zr 0), some (zi (s.1)), none] [] := by
    refine zwh_sound ?_
    intro K2 s hK2 hJ
    obtain ⟨x1, M⟩ := s
    have hJ : jM_packs_L2  K2 Φ x1 M := hJ
    show zG X M 2 [some (zr 0), some (zi x1), none] []
    unfold jM_packs_L2 at hJ
    refine zq_iload_n (i := 1) C dX8_packs_2 rfl rfl ?_
    refine zq_aload_n (i := 0) C dX8_packs_3 rfl rfl ?_
    refine zq_getr C fk_X8_7 sm0 rfl dX8_packs_4 ?_
    refine zq_iconst (x := 0) C dX8_packs_7 rfl ik_0 ?_
    refine zq_iald C sm1 (by decide) (by decide) dX8_packs_8 ?_
    refine zq_icmp_ge (tgt := 31) C dX8_packs_9 rfl (fun h45 => ?_) (fun h45 => ?_)
    · have hJ := hJ.1 h45
      refine zq_aload_n (i := 0) C dX8_packs_31 rfl rfl ?_
      refine zq_bipush (x := (-5)) C dX8_packs_32 bi_m5 ik_m5 ?_
      refine zq_callVi C [zi (-5)] (wM_nextByDay l _ _  hJ) ck_X8_154 iv_X8_nextByDay rfl sm0 rfl rfl rfl rfl rfl rfl dX8_packs_34 (fun r1 N2 hN2 => ?_)
      obtain ⟨rfl, hJ⟩ := hN2
      refine zq_istore_n (i := 1) (lv' := [some (zr 0), some (zi r1), none]) C dX8_packs_37 rfl (Nat.le_of_ble_eq_true rfl) rfl ?_
      exact hl38 _ hJ
    · have hJ := hJ.2 h45
      refine zq_aload_n (i := 0) C dX8_packs_12 rfl rfl ?_
      refine zq_getr C fk_X8_7 sm0 rfl dX8_packs_13 ?_
      refine zq_iconst (x := 1) C dX8_packs_16 rfl ik_1 ?_
      refine zq_iconst (x := 4) C dX8_packs_17 rfl ik_4 ?_
      refine zq_iload_n (i := 1) C dX8_packs_18 rfl rfl ?_
      obtain ⟨h39, hJ⟩ := hJ
      refine zq_imul C dX8_packs_19 h39 ?_
      obtain ⟨h40, hJ⟩ := hJ
      refine zq_iadd C dX8_packs_20 h40 ?_
      refine zq_iconst (x := 1) C dX8_packs_21 rfl ik_1 ?_
      obtain ⟨h41, hJ⟩ := hJ
      refine zq_iadd C dX8_packs_22 h41 ?_
      refine zq_iconst (x := (-1)) C dX8_packs_23 rfl ik_m1 ?_
      obtain ⟨h42, h42', hJ⟩ := hJ
      refine zq_iast C sm1 h42 h42' dX8_packs_24 (fun M43 hM43 => ?_)
      have hJ := hJ M43 hM43
      obtain ⟨hv1_44, hJ⟩ := hJ
      refine zq_iinc (y := x1 + 1) (lv' := [some (zr 0), some (zi (x1 + 1)), none]) C dX8_packs_25 rfl rfl hv1_44 rfl ?_
      obtain ⟨v1_44, ev1_44⟩ : ∃ z, z = x1 + 1 := ⟨_, rfl⟩
      rw [← ev1_44]
      have hJ := hJ v1_44 ev1_44
      refine zq_goto (tgt := 2) C dX8_packs_28 rfl ?_
      exact hK2 _ hJ
  refine zq_iconst (x := 0) C dX8_packs_0 rfl ik_0 ?_
  refine zq_istore_n (i := 1) (lv' := [some (zr 0), some (zi 0), none]) C dX8_packs_1 rfl (Nat.le_of_ble_eq_true rfl) rfl ?_
  exact hl2 _ hJ
set_option maxRecDepth 100000 in
set_option maxHeartbeats 4000000 in
theorem wM_slipsBy (l : Launch) (a1 a2 : Int) (M : zM) {Φ : Int → zM → Prop} (hJ : jM_slipsBy a1 a2 M Φ) : zMet l yX8_slipsBy cX8_slipsBy 5 (some .int) 6 136 shM [zr 0, zi a1, zi a2] M (zI Φ) := by
  refine zq_enter [some (zr 0), some (zi a1), some (zi a2), none, none] (by decide) rfl (Nat.le_of_ble_eq_true rfl) rfl (fun X C => ?_)
  unfold jM_slipsBy at hJ
  refine zq_aload_n (i := 0) C dX8_slipsBy_0 rfl rfl ?_
  refine zq_iload_n (i := 1) C dX8_slipsBy_1 rfl rfl ?_
  refine zq_callVi C [zi a1] (wM_find l _ _  hJ) ck_X8_52 iv_X8_find rfl sm0 rfl rfl rfl rfl rfl rfl dX8_slipsBy_2 (fun r1 N2 hN2 => ?_)
  obtain ⟨rfl, hJ⟩ := hN2
  refine zq_istore_n (i := 3) (lv' := [some (zr 0), some (zi a1), some (zi a2), some (zi r1), none]) C dX8_slipsBy_5 rfl (Nat.le_of_ble_eq_true rfl) rfl ?_
  refine zq_iload_n (i := 3) C dX8_slipsBy_6 rfl rfl ?_
  refine zq_bipush (x := (-5)) C dX8_slipsBy_7 bi_m5 ik_m5 ?_
  refine zq_icmp_ne (tgt := 14) C dX8_slipsBy_9 rfl (fun h11 => ?_) (fun h11 => ?_)
  · have hJ := hJ.1 h11
    refine zq_iload_n (i := 2) C dX8_slipsBy_14 rfl rfl ?_
    refine zq_iconst (x := 1) C dX8_slipsBy_15 rfl ik_1 ?_
    refine zq_bipush (x := 30) C dX8_slipsBy_16 bi_30 ik_30 ?_
    refine zq_callSi C [zi a2, zi 1, zi 30] (wM_in l _ _ _ _  hJ) ck_X8_79 st_X8_in rfl rfl rfl rfl rfl rfl dX8_slipsBy_18 (fun r3 N4 hN4 => ?_)
    obtain ⟨rfl, hJ⟩ := hN4
    refine zq_if_ne (tgt := 27) C dX8_slipsBy_21 rfl (fun h10 => ?_) (fun h10 => ?_)
    · have hJ := hJ.1 h10
      refine zq_aload_n (i := 0) C dX8_slipsBy_27 rfl rfl ?_
      refine zq_iload_n (i := 3) C dX8_slipsBy_28 rfl rfl ?_
      refine zq_iload_n (i := 2) C dX8_slipsBy_29 rfl rfl ?_
      refine zq_callVi C [zi r1, zi a2] (wM_slips l _ _ _  hJ) ck_X8_160 iv_X8_slips rfl sm0 rfl rfl rfl rfl rfl rfl dX8_slipsBy_30 (fun r5 M6 hJ => ?_)
      refine zq_istore (lv' := [some (zr 0), some (zi a1), some (zi a2), some (zi r1), some (zi r5)]) C dX8_slipsBy_33 (Nat.le_of_ble_eq_true rfl) rfl ?_
      refine zq_aload_n (i := 0) C dX8_slipsBy_35 rfl rfl ?_
      refine zq_callVi C [] (wM_greatestEnd l _  hJ) ck_X8_111 iv_X8_greatestEnd rfl sm0 rfl rfl rfl rfl rfl rfl dX8_slipsBy_36 (fun r7 N8 hN8 => ?_)
      obtain ⟨rfl, hJ⟩ := hN8
      refine zq_sipush (x := 200) C dX8_slipsBy_39 si_200 ik_200 ?_
      refine zq_icmp_le (tgt := 50) C dX8_slipsBy_42 rfl (fun h9 => ?_) (fun h9 => ?_)
      · have hJ := hJ.1 h9
        refine zq_iload C dX8_slipsBy_50 rfl ?_
        exact zq_iret C rfl ⟨_, rfl, hJ⟩ dX8_slipsBy_52
      · have hJ := hJ.2 h9
        refine zq_bipush (x := (-4)) C dX8_slipsBy_45 bi_m4 ik_m4 ?_
        refine zq_goto (tgt := 52) C dX8_slipsBy_47 rfl ?_
        exact zq_iret C rfl ⟨_, rfl, hJ⟩ dX8_slipsBy_52
    · have hJ := hJ.2 h10
      refine zq_bipush (x := (-2)) C dX8_slipsBy_24 bi_m2 ik_m2 ?_
      exact zq_iret C rfl ⟨_, rfl, hJ⟩ dX8_slipsBy_26
  · have hJ := hJ.2 h11
    refine zq_iconst (x := (-1)) C dX8_slipsBy_12 rfl ik_m1 ?_
    exact zq_iret C rfl ⟨_, rfl, hJ⟩ dX8_slipsBy_13
set_option maxRecDepth 100000 in
set_option maxHeartbeats 4000000 in
theorem wM_pulls (l : Launch) (a1 : Int) (M : zM) {Φ : Int → zM → Prop} (hJ : jM_pulls a1 M Φ) : zMet l yX8_pulls cX8_pulls 5 (some .int) 5 110 shM [zr 0, zi a1] M (zI Φ) := by
  refine zq_enter [some (zr 0), some (zi a1), none, none, none] (by decide) rfl (Nat.le_of_ble_eq_true rfl) rfl (fun X C => ?_)
  unfold jM_pulls at hJ
  have hl23 : ∀ (x2 : Int) (M : zM) (s : Int × Int), zwh (fun K s => jM_pulls_L23 a1 K Φ x2 M (s.1) (s.2)) s → zG X M 23 [some (zr 0), some (zi a1), some (zi x2), some (zi (s.1)), some (zi (s.2))] [] := by
    intro x2 M
    refine zwh_sound ?_
    intro K23 s hK23 hJ
    obtain ⟨x3, x4⟩ := s
    have hJ : jM_pulls_L23 a1 K23 Φ x2 M x3 x4 := hJ
    show zG X M 23 [some (zr 0), some (zi a1), some (zi x2), some (zi x3), some (zi x4)] []
    unfold jM_pulls_L23 at hJ
    refine zq_iload C dX8_pulls_23 rfl ?_
    refine zq_aload_n (i := 0) C dX8_pulls_25 rfl rfl ?_
    refine zq_getr C fk_X8_7 sm0 rfl dX8_pulls_26 ?_
    refine zq_iconst (x := 0) C dX8_pulls_29 rfl ik_0 ?_
    refine zq_iald C sm1 (by decide) (by decide) dX8_pulls_30 ?_
    refine zq_icmp_ge (tgt := 70) C dX8_pulls_31 rfl (fun h24 => ?_) (fun h24 => ?_)
    · have hJ := hJ.1 h24
      refine zq_aload_n (i := 0) C dX8_pulls_70 rfl rfl ?_
      refine zq_iload_n (i := 2) C dX8_pulls_71 rfl rfl ?_
      refine zq_iconst (x := 2) C dX8_pulls_72 rfl ik_2 ?_
      refine zq_callVi C [zi x2, zi 2] (wM_of l _ _ _  hJ) ck_X8_48 iv_X8_of rfl sm0 rfl rfl rfl rfl rfl rfl dX8_pulls_73 (fun r4 N5 hN5 => ?_)
      obtain ⟨rfl, hJ⟩ := hN5
      refine zq_iload_n (i := 3) C dX8_pulls_76 rfl rfl ?_
      obtain ⟨h6, hJ⟩ := hJ
      refine zq_isub C dX8_pulls_77 h6 ?_
      refine zq_istoreN C (fun v => [some (zr 0), some (zi a1), some (zi x2), some (zi x3), some (zi v)]) dX8_pulls_78 (Nat.le_of_ble_eq_true rfl) (fun _ => rfl) (fun v4_7 hv4_7 => ?_)
      have hJ := hJ v4_7 hv4_7
      refine zq_aload_n (i := 0) C dX8_pulls_80 rfl rfl ?_
      refine zq_getr C fk_X8_7 sm0 rfl dX8_pulls_81 ?_
      refine zq_iconst (x := 1) C dX8_pulls_84 rfl ik_1 ?_
      refine zq_iconst (x := 4) C dX8_pulls_85 rfl ik_4 ?_
      refine zq_iload_n (i := 2) C dX8_pulls_86 rfl rfl ?_
      obtain ⟨h8, hJ⟩ := hJ
      refine zq_imul C dX8_pulls_87 h8 ?_
      obtain ⟨h9, hJ⟩ := hJ
      refine zq_iadd C dX8_pulls_88 h9 ?_
      refine zq_iconst (x := 2) C dX8_pulls_89 rfl ik_2 ?_
      obtain ⟨h10, hJ⟩ := hJ
      refine zq_iadd C dX8_pulls_90 h10 ?_
      refine zq_iload_n (i := 3) C dX8_pulls_91 rfl rfl ?_
      obtain ⟨h11, h11', hJ⟩ := hJ
      refine zq_iast C sm1 h11 h11' dX8_pulls_92 (fun M12 hM12 => ?_)
      have hJ := hJ M12 hM12
      refine zq_iload C dX8_pulls_93 rfl ?_
      refine zq_if_ne (tgt := 103) C dX8_pulls_95 rfl (fun h13 => ?_) (fun h13 => ?_)
      · have hJ := hJ.1 h13
        refine zq_iload C dX8_pulls_103 rfl ?_
        exact zq_iret C rfl ⟨_, rfl, hJ⟩ dX8_pulls_105
      · have hJ := hJ.2 h13
        refine zq_bipush (x := (-5)) C dX8_pulls_98 bi_m5 ik_m5 ?_
        refine zq_goto (tgt := 105) C dX8_pulls_100 rfl ?_
        exact zq_iret C rfl ⟨_, rfl, hJ⟩ dX8_pulls_105
    · have hJ := hJ.2 h24
      refine zq_aload_n (i := 0) C dX8_pulls_34 rfl rfl ?_
      refine zq_getr C fk_X8_28 sm0 rfl dX8_pulls_35 ?_
      refine zq_bipush (x := 30) C dX8_pulls_38 bi_30 ik_30 ?_
      refine zq_iload C dX8_pulls_40 rfl ?_
      obtain ⟨h14, hJ⟩ := hJ
      refine zq_imul C dX8_pulls_42 h14 ?_
      refine zq_iload_n (i := 2) C dX8_pulls_43 rfl rfl ?_
      obtain ⟨h15, hJ⟩ := hJ
      refine zq_iadd C dX8_pulls_44 h15 ?_
      obtain ⟨h16, h16', hJ⟩ := hJ
      refine zq_zald C sm7 h16 h16' dX8_pulls_45 ?_
      refine zq_if_eq (tgt := 62) C dX8_pulls_46 rfl (fun h23 => ?_) (fun h23 => ?_)
      · have hJ := hJ.1 h23
        refine zq_iload_n (i := 3) C dX8_pulls_62 rfl rfl ?_
        refine zq_istore_n (i := 3) (lv' := [some (zr 0), some (zi a1), some (zi x2), some (zi x3), some (zi x4)]) C dX8_pulls_63 rfl (Nat.le_of_ble_eq_true rfl) rfl ?_
        obtain ⟨hv4_17, hJ⟩ := hJ
        refine zq_iinc (y := x4 + 1) (lv' := [some (zr 0), some (zi a1), some (zi x2), some (zi x3), some (zi (x4 + 1))]) C dX8_pulls_64 rfl rfl hv4_17 rfl ?_
        obtain ⟨v4_17, ev4_17⟩ : ∃ z, z = x4 + 1 := ⟨_, rfl⟩
        rw [← ev4_17]
        have hJ := hJ v4_17 ev4_17
        refine zq_goto (tgt := 23) C dX8_pulls_67 rfl ?_
        exact hK23 _ hJ
      · have hJ := hJ.2 h23
        refine zq_iload_n (i := 3) C dX8_pulls_49 rfl rfl ?_
        refine zq_aload_n (i := 0) C dX8_pulls_50 rfl rfl ?_
        refine zq_iload C dX8_pulls_51 rfl ?_
        refine zq_callVi C [zi x4] (wM_end l _ _  hJ) ck_X8_56 iv_X8_end rfl sm0 rfl rfl rfl rfl rfl rfl dX8_pulls_53 (fun r18 N19 hN19 => ?_)
        obtain ⟨rfl, hJ⟩ := hN19
        refine zq_callSi C [zi x3, zi r18] (wM_most l _ _ _  hJ) ck_X8_59 st_X8_most rfl rfl rfl rfl rfl rfl dX8_pulls_56 (fun r20 N21 hN21 => ?_)
        obtain ⟨rfl, hJ⟩ := hN21
        refine zq_goto (tgt := 63) C dX8_pulls_59 rfl ?_
        refine zq_istore_n (i := 3) (lv' := [some (zr 0), some (zi a1), some (zi x2), some (zi r20), some (zi x4)]) C dX8_pulls_63 rfl (Nat.le_of_ble_eq_true rfl) rfl ?_
        obtain ⟨hv4_22, hJ⟩ := hJ
        refine zq_iinc (y := x4 + 1) (lv' := [some (zr 0), some (zi a1), some (zi x2), some (zi r20), some (zi (x4 + 1))]) C dX8_pulls_64 rfl rfl hv4_22 rfl ?_
        obtain ⟨v4_22, ev4_22⟩ : ∃ z, z = x4 + 1 := ⟨_, rfl⟩
        rw [← ev4_22]
        have hJ := hJ v4_22 ev4_22
        refine zq_goto (tgt := 23) C dX8_pulls_67 rfl ?_
        exact hK23 _ hJ
  refine zq_aload_n (i := 0) C dX8_pulls_0 rfl rfl ?_
  refine zq_iload_n (i := 1) C dX8_pulls_1 rfl rfl ?_
  refine zq_callVi C [zi a1] (wM_find l _ _  hJ) ck_X8_52 iv_X8_find rfl sm0 rfl rfl rfl rfl rfl rfl dX8_pulls_2 (fun r1 N2 hN2 => ?_)
  obtain ⟨rfl, hJ⟩ := hN2
  refine zq_istore_n (i := 2) (lv' := [some (zr 0), some (zi a1), some (zi r1), none, none]) C dX8_pulls_5 rfl (Nat.le_of_ble_eq_true rfl) rfl ?_
  refine zq_iload_n (i := 2) C dX8_pulls_6 rfl rfl ?_
  refine zq_bipush (x := (-5)) C dX8_pulls_7 bi_m5 ik_m5 ?_
  refine zq_icmp_ne (tgt := 14) C dX8_pulls_9 rfl (fun h25 => ?_) (fun h25 => ?_)
  · have hJ := hJ.1 h25
    refine zq_aload_n (i := 0) C dX8_pulls_14 rfl rfl ?_
    refine zq_callVv C [] (wM_layPushes l _  hJ) ck_X8_124 iv_X8_layPushes rfl sm0 rfl rfl rfl rfl rfl rfl dX8_pulls_15 (fun M3 hJ => ?_)
    refine zq_iconst (x := 0) C dX8_pulls_18 rfl ik_0 ?_
    refine zq_istore_n (i := 3) (lv' := [some (zr 0), some (zi a1), some (zi r1), some (zi 0), none]) C dX8_pulls_19 rfl (Nat.le_of_ble_eq_true rfl) rfl ?_
    refine zq_iconst (x := 0) C dX8_pulls_20 rfl ik_0 ?_
    refine zq_istore (lv' := [some (zr 0), some (zi a1), some (zi r1), some (zi 0), some (zi 0)]) C dX8_pulls_21 (Nat.le_of_ble_eq_true rfl) rfl ?_
    exact hl23 _ _ _ hJ
  · have hJ := hJ.2 h25
    refine zq_iconst (x := (-1)) C dX8_pulls_12 rfl ik_m1 ?_
    exact zq_iret C rfl ⟨_, rfl, hJ⟩ dX8_pulls_13
set_option maxRecDepth 100000 in
set_option maxHeartbeats 4000000 in
theorem wM_widens (l : Launch) (a1 a2 a3 : Int) (M : zM) {Φ : Int → zM → Prop} (hJ : jM_widens a1 a2 a3 M Φ) : zMet l yX8_widens cX8_widens 6 (some .int) 1 22 shM [zr 0, zi a1, zi a2, zi a3] M (zI Φ) := by
  refine zq_enter [some (zr 0), some (zi a1), some (zi a2), some (zi a3), none, none] (by decide) rfl (Nat.le_of_ble_eq_true rfl) rfl (fun X C => ?_)
  unfold jM_widens at hJ
  have hl41 : ∀ (s : Int × Int × zM), zwh (fun K s => jM_widens_L41 a1 a2 a3 K Φ (s.1) (s.2.1) (s.2.2)) s → zG X (s.2.2) 41 [some (zr 0), some (zi a1), some (zi a2), some (zi a3), some (zi (s.1)), some (zi (s.2.1))] [] := by
    refine zwh_sound ?_
    intro K41 s hK41 hJ
    obtain ⟨x4, x5, M⟩ := s
    have hJ : jM_widens_L41 a1 a2 a3 K41 Φ x4 x5 M := hJ
    show zG X M 41 [some (zr 0), some (zi a1), some (zi a2), some (zi a3), some (zi x4), some (zi x5)] []
    unfold jM_widens_L41 at hJ
    have hj69 : ∀ (x5 s0 s1 : Int) (M : zM), jM_widens_J69 a1 a2 a3 K41 Φ x5 s0 s1 M → zG X M 69 [some (zr 0), some (zi a1), some (zi a2), some (zi a3), none, some (zi x5)] [zi s1, zi s0] := by
      intro x5 s0 s1 M hJ
      unfold jM_widens_J69 at hJ
      obtain ⟨h10, hJ⟩ := hJ
      refine zq_iadd C dX8_widens_69 h10 ?_
      refine zq_istoreN C (fun v => [some (zr 0), some (zi a1), some (zi a2), some (zi a3), some (zi v), some (zi x5)]) dX8_widens_70 (Nat.le_of_ble_eq_true rfl) (fun _ => rfl) (fun v4_11 hv4_11 => ?_)
      have hJ := hJ v4_11 hv4_11
      refine zq_aload_n (i := 0) C dX8_widens_72 rfl rfl ?_
      refine zq_getr C fk_X8_7 sm0 rfl dX8_widens_73 ?_
      refine zq_sipush (x := 242) C dX8_widens_76 si_242 ik_242 ?_
      refine zq_iload C dX8_widens_79 rfl ?_
      obtain ⟨h12, hJ⟩ := hJ
      refine zq_iadd C dX8_widens_81 h12 ?_
      refine zq_iload_n (i := 3) C dX8_widens_82 rfl rfl ?_
      obtain ⟨h13, h13', hJ⟩ := hJ
      refine zq_iast C sm1 h13 h13' dX8_widens_83 (fun M14 hM14 => ?_)
      have hJ := hJ M14 hM14
      obtain ⟨hv5_15, hJ⟩ := hJ
      refine zq_iinc (y := x5 + 1) (lv' := [some (zr 0), some (zi a1), some (zi a2), some (zi a3), some (zi v4_11), some (zi (x5 + 1))]) C dX8_widens_84 rfl rfl hv5_15 rfl ?_
      obtain ⟨v5_15, ev5_15⟩ : ∃ z, z = x5 + 1 := ⟨_, rfl⟩
      rw [← ev5_15]
      have hJ := hJ v5_15 ev5_15
      refine zq_goto (tgt := 41) C dX8_widens_87 rfl ?_
      exact hK41 _ hJ
    refine zq_iload C dX8_widens_41 rfl ?_
    refine zq_iload_n (i := 2) C dX8_widens_43 rfl rfl ?_
    refine zq_icmp_gt (tgt := 90) C dX8_widens_44 rfl (fun h17 => ?_) (fun h17 => ?_)
    · have hJ := hJ.1 h17
      refine zq_iload C dX8_widens_90 rfl ?_
      refine zq_if_ne (tgt := 100) C dX8_widens_92 rfl (fun h7 => ?_) (fun h7 => ?_)
      · have hJ := hJ.1 h7
        refine zq_iload C dX8_widens_100 rfl ?_
        exact zq_iret C rfl ⟨_, rfl, hJ⟩ dX8_widens_102
      · have hJ := hJ.2 h7
        refine zq_bipush (x := (-5)) C dX8_widens_95 bi_m5 ik_m5 ?_
        refine zq_goto (tgt := 102) C dX8_widens_97 rfl ?_
        exact zq_iret C rfl ⟨_, rfl, hJ⟩ dX8_widens_102
    · have hJ := hJ.2 h17
      refine zq_iload C dX8_widens_47 rfl ?_
      refine zq_aload_n (i := 0) C dX8_widens_49 rfl rfl ?_
      refine zq_getr C fk_X8_7 sm0 rfl dX8_widens_50 ?_
      refine zq_sipush (x := 242) C dX8_widens_53 si_242 ik_242 ?_
      refine zq_iload C dX8_widens_56 rfl ?_
      obtain ⟨h8, hJ⟩ := hJ
      refine zq_iadd C dX8_widens_58 h8 ?_
      obtain ⟨h9, h9', hJ⟩ := hJ
      refine zq_iald C sm1 h9 h9' dX8_widens_59 ?_
      refine zq_iload_n (i := 3) C dX8_widens_60 rfl rfl ?_
      refine zq_icmp_ne (tgt := 68) C dX8_widens_61 rfl (fun h16 => ?_) (fun h16 => ?_)
      · have hJ := hJ.1 h16
        refine zq_iconst (x := 1) C dX8_widens_68 rfl ik_1 ?_
        refine zq_weak [some (zr 0), some (zi a1), some (zi a2), some (zi a3), none, some (zi x5)] ⟨Or.inr rfl, Or.inr rfl, Or.inr rfl, Or.inr rfl, Or.inl rfl, Or.inr rfl, trivial⟩ ?_
        exact hj69 _ _ _ _ hJ
      · have hJ := hJ.2 h16
        refine zq_iconst (x := 0) C dX8_widens_64 rfl ik_0 ?_
        refine zq_goto (tgt := 69) C dX8_widens_65 rfl ?_
        refine zq_weak [some (zr 0), some (zi a1), some (zi a2), some (zi a3), none, some (zi x5)] ⟨Or.inr rfl, Or.inr rfl, Or.inr rfl, Or.inr rfl, Or.inl rfl, Or.inr rfl, trivial⟩ ?_
        exact hj69 _ _ _ _ hJ
  refine zq_iload_n (i := 1) C dX8_widens_0 rfl rfl ?_
  refine zq_iconst (x := 0) C dX8_widens_1 rfl ik_0 ?_
  refine zq_sipush (x := 199) C dX8_widens_2 si_199 ik_199 ?_
  refine zq_callSi C [zi a1, zi 0, zi 199] (wM_in l _ _ _ _  hJ) ck_X8_79 st_X8_in rfl rfl rfl rfl rfl rfl dX8_widens_5 (fun r1 N2 hN2 => ?_)
  obtain ⟨rfl, hJ⟩ := hN2
  refine zq_if_eq (tgt := 32) C dX8_widens_8 rfl (fun h20 => ?_) (fun h20 => ?_)
  · have hJ := hJ.1 h20
    refine zq_bipush (x := (-2)) C dX8_widens_32 bi_m2 ik_m2 ?_
    exact zq_iret C rfl ⟨_, rfl, hJ⟩ dX8_widens_34
  · have hJ := hJ.2 h20
    refine zq_iload_n (i := 2) C dX8_widens_11 rfl rfl ?_
    refine zq_iload_n (i := 1) C dX8_widens_12 rfl rfl ?_
    refine zq_sipush (x := 199) C dX8_widens_13 si_199 ik_199 ?_
    refine zq_callSi C [zi a2, zi a1, zi 199] (wM_in l _ _ _ _  hJ) ck_X8_79 st_X8_in rfl rfl rfl rfl rfl rfl dX8_widens_16 (fun r3 N4 hN4 => ?_)
    obtain ⟨rfl, hJ⟩ := hN4
    refine zq_if_eq (tgt := 32) C dX8_widens_19 rfl (fun h19 => ?_) (fun h19 => ?_)
    · have hJ := hJ.1 h19
      refine zq_bipush (x := (-2)) C dX8_widens_32 bi_m2 ik_m2 ?_
      exact zq_iret C rfl ⟨_, rfl, hJ⟩ dX8_widens_34
    · have hJ := hJ.2 h19
      refine zq_iload_n (i := 3) C dX8_widens_22 rfl rfl ?_
      refine zq_iconst (x := 1) C dX8_widens_23 rfl ik_1 ?_
      refine zq_bipush (x := 9) C dX8_widens_24 bi_9 ik_9 ?_
      refine zq_callSi C [zi a3, zi 1, zi 9] (wM_in l _ _ _ _  hJ) ck_X8_79 st_X8_in rfl rfl rfl rfl rfl rfl dX8_widens_26 (fun r5 N6 hN6 => ?_)
      obtain ⟨rfl, hJ⟩ := hN6
      refine zq_if_ne (tgt := 35) C dX8_widens_29 rfl (fun h18 => ?_) (fun h18 => ?_)
      · have hJ := hJ.1 h18
        refine zq_iconst (x := 0) C dX8_widens_35 rfl ik_0 ?_
        refine zq_istore (lv' := [some (zr 0), some (zi a1), some (zi a2), some (zi a3), some (zi 0), none]) C dX8_widens_36 (Nat.le_of_ble_eq_true rfl) rfl ?_
        refine zq_iload_n (i := 1) C dX8_widens_38 rfl rfl ?_
        refine zq_istore (lv' := [some (zr 0), some (zi a1), some (zi a2), some (zi a3), some (zi 0), some (zi a1)]) C dX8_widens_39 (Nat.le_of_ble_eq_true rfl) rfl ?_
        exact hl41 _ hJ
      · have hJ := hJ.2 h18
        refine zq_bipush (x := (-2)) C dX8_widens_32 bi_m2 ik_m2 ?_
        exact zq_iret C rfl ⟨_, rfl, hJ⟩ dX8_widens_34
set_option maxRecDepth 100000 in
set_option maxHeartbeats 4000000 in
theorem wM_sets (l : Launch) (a1 a2 : Int) (M : zM) {Φ : Int → zM → Prop} (hJ : jM_sets a1 a2 M Φ) : zMet l yX8_sets cX8_sets 4 (some .int) 1 22 shM [zr 0, zi a1, zi a2] M (zI Φ) := by
  refine zq_enter [some (zr 0), some (zi a1), some (zi a2), none] (by decide) rfl (Nat.le_of_ble_eq_true rfl) rfl (fun X C => ?_)
  unfold jM_sets at hJ
  have hj31 : ∀ (s0 s1 s2 : Int) (M : zM), jM_sets_J31 a1 a2 Φ s0 s1 s2 M → zG X M 31 [some (zr 0), some (zi a1), some (zi a2), none] [zi s2, zi s1, zi s0] := by
    intro s0 s1 s2 M hJ
    unfold jM_sets_J31 at hJ
    refine zq_callSi C [zi s0, zi s1, zi s2] (wM_in l _ _ _ _  hJ) ck_X8_79 st_X8_in rfl rfl rfl rfl rfl rfl dX8_sets_31 (fun r3 N4 hN4 => ?_)
    obtain ⟨rfl, hJ⟩ := hN4
    refine zq_if_ne (tgt := 40) C dX8_sets_34 rfl (fun h12 => ?_) (fun h12 => ?_)
    · have hJ := hJ.1 h12
      refine zq_aload_n (i := 0) C dX8_sets_40 rfl rfl ?_
      refine zq_getr C fk_X8_7 sm0 rfl dX8_sets_41 ?_
      refine zq_sipush (x := 442) C dX8_sets_44 si_442 ik_442 ?_
      refine zq_iload_n (i := 1) C dX8_sets_47 rfl rfl ?_
      obtain ⟨h5, hJ⟩ := hJ
      refine zq_iadd C dX8_sets_48 h5 ?_
      obtain ⟨h6, h6', hJ⟩ := hJ
      refine zq_iald C sm1 h6 h6' dX8_sets_49 ?_
      refine zq_istoreN_n (i := 3) C (fun v => [some (zr 0), some (zi a1), some (zi a2), some (zi v)]) dX8_sets_50 rfl (Nat.le_of_ble_eq_true rfl) (fun _ => rfl) (fun v3_7 hv3_7 => ?_)
      have hJ := hJ v3_7 hv3_7
      refine zq_aload_n (i := 0) C dX8_sets_51 rfl rfl ?_
      refine zq_getr C fk_X8_7 sm0 rfl dX8_sets_52 ?_
      refine zq_sipush (x := 442) C dX8_sets_55 si_442 ik_442 ?_
      refine zq_iload_n (i := 1) C dX8_sets_58 rfl rfl ?_
      obtain ⟨h8, hJ⟩ := hJ
      refine zq_iadd C dX8_sets_59 h8 ?_
      refine zq_iload_n (i := 2) C dX8_sets_60 rfl rfl ?_
      obtain ⟨h9, h9', hJ⟩ := hJ
      refine zq_iast C sm1 h9 h9' dX8_sets_61 (fun M10 hM10 => ?_)
      have hJ := hJ M10 hM10
      refine zq_iload_n (i := 3) C dX8_sets_62 rfl rfl ?_
      refine zq_iload_n (i := 2) C dX8_sets_63 rfl rfl ?_
      refine zq_icmp_ne (tgt := 72) C dX8_sets_64 rfl (fun h11 => ?_) (fun h11 => ?_)
      · have hJ := hJ.1 h11
        refine zq_iload_n (i := 3) C dX8_sets_72 rfl rfl ?_
        exact zq_iret C rfl ⟨_, rfl, hJ⟩ dX8_sets_73
      · have hJ := hJ.2 h11
        refine zq_bipush (x := (-5)) C dX8_sets_67 bi_m5 ik_m5 ?_
        refine zq_goto (tgt := 73) C dX8_sets_69 rfl ?_
        exact zq_iret C rfl ⟨_, rfl, hJ⟩ dX8_sets_73
    · have hJ := hJ.2 h12
      refine zq_bipush (x := (-2)) C dX8_sets_37 bi_m2 ik_m2 ?_
      exact zq_iret C rfl ⟨_, rfl, hJ⟩ dX8_sets_39
  have hj20 : ∀ (s0 s1 : Int) (M : zM), jM_sets_J20 a1 a2 Φ s0 s1 M → zG X M 20 [some (zr 0), some (zi a1), some (zi a2), none] [zi s1, zi s0] := by
    intro s0 s1 M hJ
    unfold jM_sets_J20 at hJ
    refine zq_iload_n (i := 1) C dX8_sets_20 rfl rfl ?_
    refine zq_if_ne (tgt := 28) C dX8_sets_21 rfl (fun h13 => ?_) (fun h13 => ?_)
    · have hJ := hJ.1 h13
      refine zq_sipush (x := 999) C dX8_sets_28 si_999 ik_999 ?_
      exact hj31 _ _ _ _ hJ
    · have hJ := hJ.2 h13
      refine zq_iconst (x := 2) C dX8_sets_24 rfl ik_2 ?_
      refine zq_goto (tgt := 31) C dX8_sets_25 rfl ?_
      exact hj31 _ _ _ _ hJ
  refine zq_iload_n (i := 1) C dX8_sets_0 rfl rfl ?_
  refine zq_iconst (x := 0) C dX8_sets_1 rfl ik_0 ?_
  refine zq_iconst (x := 1) C dX8_sets_2 rfl ik_1 ?_
  refine zq_callSi C [zi a1, zi 0, zi 1] (wM_in l _ _ _ _  hJ) ck_X8_79 st_X8_in rfl rfl rfl rfl rfl rfl dX8_sets_3 (fun r1 N2 hN2 => ?_)
  obtain ⟨rfl, hJ⟩ := hN2
  refine zq_if_eq (tgt := 37) C dX8_sets_6 rfl (fun h15 => ?_) (fun h15 => ?_)
  · have hJ := hJ.1 h15
    refine zq_bipush (x := (-2)) C dX8_sets_37 bi_m2 ik_m2 ?_
    exact zq_iret C rfl ⟨_, rfl, hJ⟩ dX8_sets_39
  · have hJ := hJ.2 h15
    refine zq_iload_n (i := 2) C dX8_sets_9 rfl rfl ?_
    refine zq_iload_n (i := 1) C dX8_sets_10 rfl rfl ?_
    refine zq_if_ne (tgt := 18) C dX8_sets_11 rfl (fun h14 => ?_) (fun h14 => ?_)
    · have hJ := hJ.1 h14
      refine zq_bipush (x := 10) C dX8_sets_18 bi_10 ik_10 ?_
      exact hj20 _ _ _ hJ
    · have hJ := hJ.2 h14
      refine zq_iconst (x := 0) C dX8_sets_14 rfl ik_0 ?_
      refine zq_goto (tgt := 20) C dX8_sets_15 rfl ?_
      exact hj20 _ _ _ hJ
set_option maxRecDepth 100000 in
set_option maxHeartbeats 4000000 in
theorem wM_bar (l : Launch) (a1 a2 a3 : Int) (M : zM) {Φ : Int → zM → Prop} (hJ : jM_bar a1 a2 a3 M Φ) : zMet l yX8_bar cX8_bar 4 (some .int) 4 92 shM [zr 0, zi a1, zi a2, zi a3] M (zI Φ) := by
  refine zq_enter [some (zr 0), some (zi a1), some (zi a2), some (zi a3)] (by decide) rfl (Nat.le_of_ble_eq_true rfl) rfl (fun X C => ?_)
  unfold jM_bar at hJ
  refine zq_aload_n (i := 0) C dX8_bar_0 rfl rfl ?_
  refine zq_callVv C [] (wM_putAside l _  hJ) ck_X8_163 iv_X8_putAside rfl sm0 rfl rfl rfl rfl rfl rfl dX8_bar_1 (fun M1 hJ => ?_)
  refine zq_aload_n (i := 0) C dX8_bar_4 rfl rfl ?_
  refine zq_aload_n (i := 0) C dX8_bar_5 rfl rfl ?_
  refine zq_iload_n (i := 1) C dX8_bar_6 rfl rfl ?_
  refine zq_iload_n (i := 2) C dX8_bar_7 rfl rfl ?_
  refine zq_iload_n (i := 3) C dX8_bar_8 rfl rfl ?_
  refine zq_callVi C [zi a1, zi a2, zi a3] (wM_addsBar l _ _ _ _  hJ) ck_X8_166 iv_X8_addsBar rfl sm0 rfl rfl rfl rfl rfl rfl dX8_bar_9 (fun r2 M3 hJ => ?_)
  refine zq_callVi C [zi r2] (wM_act l _ _  hJ) ck_X8_170 iv_X8_act rfl sm0 rfl rfl rfl rfl rfl rfl dX8_bar_12 (fun r4 M5 hJ => ?_)
  exact zq_iret C rfl ⟨_, rfl, hJ⟩ dX8_bar_15
set_option maxRecDepth 100000 in
set_option maxHeartbeats 4000000 in
theorem wM_arrow (l : Launch) (a1 a2 : Int) (M : zM) {Φ : Int → zM → Prop} (hJ : jM_arrow a1 a2 M Φ) : zMet l yX8_arrow cX8_arrow 3 (some .int) 5 114 shM [zr 0, zi a1, zi a2] M (zI Φ) := by
  refine zq_enter [some (zr 0), some (zi a1), some (zi a2)] (by decide) rfl (Nat.le_of_ble_eq_true rfl) rfl (fun X C => ?_)
  unfold jM_arrow at hJ
  refine zq_aload_n (i := 0) C dX8_arrow_0 rfl rfl ?_
  refine zq_callVv C [] (wM_putAside l _  hJ) ck_X8_163 iv_X8_putAside rfl sm0 rfl rfl rfl rfl rfl rfl dX8_arrow_1 (fun M1 hJ => ?_)
  refine zq_aload_n (i := 0) C dX8_arrow_4 rfl rfl ?_
  refine zq_aload_n (i := 0) C dX8_arrow_5 rfl rfl ?_
  refine zq_iload_n (i := 1) C dX8_arrow_6 rfl rfl ?_
  refine zq_iload_n (i := 2) C dX8_arrow_7 rfl rfl ?_
  refine zq_callVi C [zi a1, zi a2] (wM_addsArrow l _ _ _  hJ) ck_X8_173 iv_X8_addsArrow rfl sm0 rfl rfl rfl rfl rfl rfl dX8_arrow_8 (fun r2 M3 hJ => ?_)
  refine zq_callVi C [zi r2] (wM_act l _ _  hJ) ck_X8_170 iv_X8_act rfl sm0 rfl rfl rfl rfl rfl rfl dX8_arrow_11 (fun r4 M5 hJ => ?_)
  exact zq_iret C rfl ⟨_, rfl, hJ⟩ dX8_arrow_14
set_option maxRecDepth 100000 in
set_option maxHeartbeats 4000000 in
theorem wM_takeBar (l : Launch) (a1 : Int) (M : zM) {Φ : Int → zM → Prop} (hJ : jM_takeBar a1 M Φ) : zMet l yX8_takeBar cX8_takeBar 2 (some .int) 4 89 shM [zr 0, zi a1] M (zI Φ) := by
  refine zq_enter [some (zr 0), some (zi a1)] (by decide) rfl (Nat.le_of_ble_eq_true rfl) rfl (fun X C => ?_)
  unfold jM_takeBar at hJ
  refine zq_aload_n (i := 0) C dX8_takeBar_0 rfl rfl ?_
  refine zq_callVv C [] (wM_putAside l _  hJ) ck_X8_163 iv_X8_putAside rfl sm0 rfl rfl rfl rfl rfl rfl dX8_takeBar_1 (fun M1 hJ => ?_)
  refine zq_aload_n (i := 0) C dX8_takeBar_4 rfl rfl ?_
  refine zq_aload_n (i := 0) C dX8_takeBar_5 rfl rfl ?_
  refine zq_iload_n (i := 1) C dX8_takeBar_6 rfl rfl ?_
  refine zq_callVi C [zi a1] (wM_takesBar l _ _  hJ) ck_X8_176 iv_X8_takesBar rfl sm0 rfl rfl rfl rfl rfl rfl dX8_takeBar_7 (fun r2 M3 hJ => ?_)
  refine zq_callVi C [zi r2] (wM_act l _ _  hJ) ck_X8_170 iv_X8_act rfl sm0 rfl rfl rfl rfl rfl rfl dX8_takeBar_10 (fun r4 M5 hJ => ?_)
  exact zq_iret C rfl ⟨_, rfl, hJ⟩ dX8_takeBar_13
set_option maxRecDepth 100000 in
set_option maxHeartbeats 4000000 in
theorem wM_takeArrow (l : Launch) (a1 : Int) (M : zM) {Φ : Int → zM → Prop} (hJ : jM_takeArrow a1 M Φ) : zMet l yX8_takeArrow cX8_takeArrow 2 (some .int) 2 45 shM [zr 0, zi a1] M (zI Φ) := by
  refine zq_enter [some (zr 0), some (zi a1)] (by decide) rfl (Nat.le_of_ble_eq_true rfl) rfl (fun X C => ?_)
  unfold jM_takeArrow at hJ
  refine zq_aload_n (i := 0) C dX8_takeArrow_0 rfl rfl ?_
  refine zq_callVv C [] (wM_putAside l _  hJ) ck_X8_163 iv_X8_putAside rfl sm0 rfl rfl rfl rfl rfl rfl dX8_takeArrow_1 (fun M1 hJ => ?_)
  refine zq_aload_n (i := 0) C dX8_takeArrow_4 rfl rfl ?_
  refine zq_aload_n (i := 0) C dX8_takeArrow_5 rfl rfl ?_
  refine zq_iload_n (i := 1) C dX8_takeArrow_6 rfl rfl ?_
  refine zq_callVi C [zi a1] (wM_takesArrow l _ _  hJ) ck_X8_179 iv_X8_takesArrow rfl sm0 rfl rfl rfl rfl rfl rfl dX8_takeArrow_7 (fun r2 M3 hJ => ?_)
  refine zq_callVi C [zi r2] (wM_act l _ _  hJ) ck_X8_170 iv_X8_act rfl sm0 rfl rfl rfl rfl rfl rfl dX8_takeArrow_10 (fun r4 M5 hJ => ?_)
  exact zq_iret C rfl ⟨_, rfl, hJ⟩ dX8_takeArrow_13
set_option maxRecDepth 100000 in
set_option maxHeartbeats 4000000 in
theorem wM_move (l : Launch) (a1 a2 a3 : Int) (M : zM) {Φ : Int → zM → Prop} (hJ : jM_move a1 a2 a3 M Φ) : zMet l yX8_move cX8_move 4 (some .int) 8 185 shM [zr 0, zi a1, zi a2, zi a3] M (zI Φ) := by
  refine zq_enter [some (zr 0), some (zi a1), some (zi a2), some (zi a3)] (by decide) rfl (Nat.le_of_ble_eq_true rfl) rfl (fun X C => ?_)
  unfold jM_move at hJ
  refine zq_aload_n (i := 0) C dX8_move_0 rfl rfl ?_
  refine zq_callVv C [] (wM_putAside l _  hJ) ck_X8_163 iv_X8_putAside rfl sm0 rfl rfl rfl rfl rfl rfl dX8_move_1 (fun M1 hJ => ?_)
  refine zq_aload_n (i := 0) C dX8_move_4 rfl rfl ?_
  refine zq_aload_n (i := 0) C dX8_move_5 rfl rfl ?_
  refine zq_iload_n (i := 1) C dX8_move_6 rfl rfl ?_
  refine zq_iload_n (i := 2) C dX8_move_7 rfl rfl ?_
  refine zq_iload_n (i := 3) C dX8_move_8 rfl rfl ?_
  refine zq_callVi C [zi a1, zi a2, zi a3] (wM_moves l _ _ _ _  hJ) ck_X8_182 iv_X8_moves rfl sm0 rfl rfl rfl rfl rfl rfl dX8_move_9 (fun r2 M3 hJ => ?_)
  refine zq_callVi C [zi r2] (wM_act l _ _  hJ) ck_X8_170 iv_X8_act rfl sm0 rfl rfl rfl rfl rfl rfl dX8_move_12 (fun r4 M5 hJ => ?_)
  exact zq_iret C rfl ⟨_, rfl, hJ⟩ dX8_move_15
set_option maxRecDepth 100000 in
set_option maxHeartbeats 4000000 in
theorem wM_swap (l : Launch) (a1 a2 : Int) (M : zM) {Φ : Int → zM → Prop} (hJ : jM_swap a1 a2 M Φ) : zMet l yX8_swap cX8_swap 3 (some .int) 8 183 shM [zr 0, zi a1, zi a2] M (zI Φ) := by
  refine zq_enter [some (zr 0), some (zi a1), some (zi a2)] (by decide) rfl (Nat.le_of_ble_eq_true rfl) rfl (fun X C => ?_)
  unfold jM_swap at hJ
  refine zq_aload_n (i := 0) C dX8_swap_0 rfl rfl ?_
  refine zq_callVv C [] (wM_putAside l _  hJ) ck_X8_163 iv_X8_putAside rfl sm0 rfl rfl rfl rfl rfl rfl dX8_swap_1 (fun M1 hJ => ?_)
  refine zq_aload_n (i := 0) C dX8_swap_4 rfl rfl ?_
  refine zq_aload_n (i := 0) C dX8_swap_5 rfl rfl ?_
  refine zq_iload_n (i := 1) C dX8_swap_6 rfl rfl ?_
  refine zq_iload_n (i := 2) C dX8_swap_7 rfl rfl ?_
  refine zq_callVi C [zi a1, zi a2] (wM_swaps l _ _ _  hJ) ck_X8_185 iv_X8_swaps rfl sm0 rfl rfl rfl rfl rfl rfl dX8_swap_8 (fun r2 M3 hJ => ?_)
  refine zq_callVi C [zi r2] (wM_act l _ _  hJ) ck_X8_170 iv_X8_act rfl sm0 rfl rfl rfl rfl rfl rfl dX8_swap_11 (fun r4 M5 hJ => ?_)
  exact zq_iret C rfl ⟨_, rfl, hJ⟩ dX8_swap_14
set_option maxRecDepth 100000 in
set_option maxHeartbeats 4000000 in
theorem wM_pack (l : Launch)  (M : zM) {Φ : Int → zM → Prop} (hJ : jM_pack  M Φ) : zMet l yX8_pack cX8_pack 1 (some .int) 6 133 shM [zr 0] M (zI Φ) := by
  refine zq_enter [some (zr 0)] (by decide) rfl (Nat.le_of_ble_eq_true rfl) rfl (fun X C => ?_)
  unfold jM_pack at hJ
  refine zq_aload_n (i := 0) C dX8_pack_0 rfl rfl ?_
  refine zq_callVv C [] (wM_putAside l _  hJ) ck_X8_163 iv_X8_putAside rfl sm0 rfl rfl rfl rfl rfl rfl dX8_pack_1 (fun M1 hJ => ?_)
  refine zq_aload_n (i := 0) C dX8_pack_4 rfl rfl ?_
  refine zq_aload_n (i := 0) C dX8_pack_5 rfl rfl ?_
  refine zq_callVi C [] (wM_packs l _  hJ) ck_X8_188 iv_X8_packs rfl sm0 rfl rfl rfl rfl rfl rfl dX8_pack_6 (fun r2 M3 hJ => ?_)
  refine zq_callVi C [zi r2] (wM_act l _ _  hJ) ck_X8_170 iv_X8_act rfl sm0 rfl rfl rfl rfl rfl rfl dX8_pack_9 (fun r4 M5 hJ => ?_)
  exact zq_iret C rfl ⟨_, rfl, hJ⟩ dX8_pack_12
set_option maxRecDepth 100000 in
set_option maxHeartbeats 4000000 in
theorem wM_slip (l : Launch) (a1 a2 : Int) (M : zM) {Φ : Int → zM → Prop} (hJ : jM_slip a1 a2 M Φ) : zMet l yX8_slip cX8_slip 3 (some .int) 7 160 shM [zr 0, zi a1, zi a2] M (zI Φ) := by
  refine zq_enter [some (zr 0), some (zi a1), some (zi a2)] (by decide) rfl (Nat.le_of_ble_eq_true rfl) rfl (fun X C => ?_)
  unfold jM_slip at hJ
  refine zq_aload_n (i := 0) C dX8_slip_0 rfl rfl ?_
  refine zq_callVv C [] (wM_putAside l _  hJ) ck_X8_163 iv_X8_putAside rfl sm0 rfl rfl rfl rfl rfl rfl dX8_slip_1 (fun M1 hJ => ?_)
  refine zq_aload_n (i := 0) C dX8_slip_4 rfl rfl ?_
  refine zq_aload_n (i := 0) C dX8_slip_5 rfl rfl ?_
  refine zq_iload_n (i := 1) C dX8_slip_6 rfl rfl ?_
  refine zq_iload_n (i := 2) C dX8_slip_7 rfl rfl ?_
  refine zq_callVi C [zi a1, zi a2] (wM_slipsBy l _ _ _  hJ) ck_X8_191 iv_X8_slipsBy rfl sm0 rfl rfl rfl rfl rfl rfl dX8_slip_8 (fun r2 M3 hJ => ?_)
  refine zq_callVi C [zi r2] (wM_act l _ _  hJ) ck_X8_170 iv_X8_act rfl sm0 rfl rfl rfl rfl rfl rfl dX8_slip_11 (fun r4 M5 hJ => ?_)
  exact zq_iret C rfl ⟨_, rfl, hJ⟩ dX8_slip_14
