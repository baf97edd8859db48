set_option maxRecDepth 100000 in
set_option maxHeartbeats 4000000 in
theorem wL_isSlipSo (l : Launch) (a2 : Int) (M : zM) {Φ : Int → zM → Prop} (hJ : jL_isSlipSo a2 M Φ) : zMet l yL_isSlipSo cL_isSlipSo 13 (some .boolean) 7 159 shX [zr 70, zi a2] M (zI Φ) := by
  refine zq_enter [some (zr 70), some (zi a2), none, none, none, none, none, none, none, none, none, none, none] (by decide) rfl (Nat.le_of_ble_eq_true rfl) rfl (fun X C => ?_)
  unfold jL_isSlipSo at hJ
  have hj275 : ∀ (x6 x8 x10 s0 : Int) (M : zM), jL_isSlipSo_J275 a2 Φ x6 x8 x10 s0 M → zG X M 275 [some (zr 70), some (zi a2), none, none, none, none, some (zi x6), none, some (zi x8), none, some (zi x10), none, none] [zi s0] := by
    intro x6 x8 x10 s0 M hJ
    unfold jL_isSlipSo_J275 at hJ
    refine zq_istore (lv' := [some (zr 70), some (zi a2), none, none, none, none, some (zi x6), none, some (zi x8), none, some (zi x10), none, some (zi s0)]) C dL_isSlipSo_275 (Nat.le_of_ble_eq_true rfl) rfl ?_
    refine zq_iload C dL_isSlipSo_277 rfl ?_
    refine zq_if_eq (tgt := 313) C dL_isSlipSo_279 rfl (fun h26 => ?_) (fun h26 => ?_)
    · have hJ := hJ.1 h26
      refine zq_iconst (x := 0) C dL_isSlipSo_313 rfl ik_0 ?_
      exact zq_zret C rfl (Or.inl rfl) ⟨_, rfl, hJ⟩ dL_isSlipSo_314
    · have hJ := hJ.2 h26
      refine zq_iload C dL_isSlipSo_282 rfl ?_
      refine zq_if_lt (tgt := 313) C dL_isSlipSo_284 rfl (fun h25 => ?_) (fun h25 => ?_)
      · have hJ := hJ.1 h25
        refine zq_iconst (x := 0) C dL_isSlipSo_313 rfl ik_0 ?_
        exact zq_zret C rfl (Or.inl rfl) ⟨_, rfl, hJ⟩ dL_isSlipSo_314
      · have hJ := hJ.2 h25
        refine zq_aload_n (i := 0) C dL_isSlipSo_287 rfl rfl ?_
        refine zq_iload_n (i := 1) C dL_isSlipSo_288 rfl rfl ?_
        refine zq_iconst (x := 1) C dL_isSlipSo_289 rfl ik_1 ?_
        refine zq_callVi C [zi a2, zi 1] (wB_barOf l _ _ _  hJ) ck_L_20 iv_X7_barOf rfl sx70 rfl rfl rfl rfl rfl rfl dL_isSlipSo_290 (fun r19 M20 hJ => ?_)
        refine zq_iload C dL_isSlipSo_293 rfl ?_
        refine zq_icmp_ne (tgt := 313) C dL_isSlipSo_295 rfl (fun h24 => ?_) (fun h24 => ?_)
        · have hJ := hJ.1 h24
          refine zq_iconst (x := 0) C dL_isSlipSo_313 rfl ik_0 ?_
          exact zq_zret C rfl (Or.inl rfl) ⟨_, rfl, hJ⟩ dL_isSlipSo_314
        · have hJ := hJ.2 h24
          refine zq_aload_n (i := 0) C dL_isSlipSo_298 rfl rfl ?_
          refine zq_bipush (x := 12) C dL_isSlipSo_299 bi_12 ik_12 ?_
          refine zq_callVi C [zi 12] (wB_count l _ _  hJ) ck_L_8 iv_X7_count rfl sx70 rfl rfl rfl rfl rfl rfl dL_isSlipSo_301 (fun r21 M22 hJ => ?_)
          refine zq_iload C dL_isSlipSo_304 rfl ?_
          refine zq_icmp_ne (tgt := 313) C dL_isSlipSo_306 rfl (fun h23 => ?_) (fun h23 => ?_)
          · have hJ := hJ.1 h23
            refine zq_iconst (x := 0) C dL_isSlipSo_313 rfl ik_0 ?_
            exact zq_zret C rfl (Or.inl rfl) ⟨_, rfl, hJ⟩ dL_isSlipSo_314
          · have hJ := hJ.2 h23
            refine zq_iconst (x := 1) C dL_isSlipSo_309 rfl ik_1 ?_
            refine zq_goto (tgt := 314) C dL_isSlipSo_310 rfl ?_
            exact zq_zret C rfl (Or.inr rfl) ⟨_, rfl, hJ⟩ dL_isSlipSo_314
  have hj253 : ∀ (x6 x8 x11 s0 : Int) (M : zM), jL_isSlipSo_J253 a2 Φ x6 x8 x11 s0 M → zG X M 253 [some (zr 70), some (zi a2), none, none, none, none, some (zi x6), none, some (zi x8), none, none, some (zi x11), none] [zi s0] := by
    intro x6 x8 x11 s0 M hJ
    unfold jL_isSlipSo_J253 at hJ
    refine zq_istore (lv' := [some (zr 70), some (zi a2), none, none, none, none, some (zi x6), none, some (zi x8), none, some (zi s0), some (zi x11), none]) C dL_isSlipSo_253 (Nat.le_of_ble_eq_true rfl) rfl ?_
    refine zq_aload_n (i := 0) C dL_isSlipSo_255 rfl rfl ?_
    refine zq_callVi C [] (wB_undo l _  hJ) ck_L_84 iv_X7_undo rfl sx70 rfl rfl rfl rfl rfl rfl dL_isSlipSo_256 (fun r17 M18 hJ => ?_)
    refine zq_istore (lv' := [some (zr 70), some (zi a2), none, none, none, none, some (zi x6), none, some (zi x8), none, some (zi s0), some (zi x11), some (zi r17)]) C dL_isSlipSo_259 (Nat.le_of_ble_eq_true rfl) rfl ?_
    refine zq_iload C dL_isSlipSo_261 rfl ?_
    refine zq_if_le (tgt := 273) C dL_isSlipSo_263 rfl (fun h29 => ?_) (fun h29 => ?_)
    · have hJ := hJ.1 h29
      refine zq_iload C dL_isSlipSo_273 rfl ?_
      refine zq_weak [some (zr 70), some (zi a2), none, none, none, none, some (zi x6), none, some (zi x8), none, some (zi s0), none, none] ⟨Or.inr rfl, Or.inr rfl, Or.inl rfl, Or.inl rfl, Or.inl rfl, Or.inl rfl, Or.inr rfl, Or.inl rfl, Or.inr rfl, Or.inl rfl, Or.inr rfl, Or.inl rfl, Or.inl rfl, trivial⟩ ?_
      exact hj275 _ _ _ _ _ hJ
    · have hJ := hJ.2 h29
      refine zq_aload_n (i := 0) C dL_isSlipSo_266 rfl rfl ?_
      refine zq_callVi C [] (wB_undo l _  hJ) ck_L_84 iv_X7_undo rfl sx70 rfl rfl rfl rfl rfl rfl dL_isSlipSo_267 (fun r27 M28 hJ => ?_)
      refine zq_goto (tgt := 275) C dL_isSlipSo_270 rfl ?_
      refine zq_weak [some (zr 70), some (zi a2), none, none, none, none, some (zi x6), none, some (zi x8), none, some (zi s0), none, none] ⟨Or.inr rfl, Or.inr rfl, Or.inl rfl, Or.inl rfl, Or.inl rfl, Or.inl rfl, Or.inr rfl, Or.inl rfl, Or.inr rfl, Or.inl rfl, Or.inr rfl, Or.inl rfl, Or.inl rfl, trivial⟩ ?_
      exact hj275 _ _ _ _ _ hJ
  have hj252 : ∀ (x6 x8 x11 : Int) (M : zM), jL_isSlipSo_J252 a2 Φ x6 x8 x11 M → zG X M 252 [some (zr 70), some (zi a2), none, none, none, none, some (zi x6), none, some (zi x8), none, none, some (zi x11), none] [] := by
    intro x6 x8 x11 M hJ
    unfold jL_isSlipSo_J252 at hJ
    refine zq_iconst (x := 0) C dL_isSlipSo_252 rfl ik_0 ?_
    exact hj253 _ _ _ _ _ hJ
  have hj238 : ∀ (x6 x8 x11 : Int) (M : zM), jL_isSlipSo_J238 a2 Φ x6 x8 x11 M → zG X M 238 [some (zr 70), some (zi a2), none, none, none, none, some (zi x6), none, some (zi x8), none, none, some (zi x11), none] [] := by
    intro x6 x8 x11 M hJ
    unfold jL_isSlipSo_J238 at hJ
    refine zq_aload_n (i := 0) C dL_isSlipSo_238 rfl rfl ?_
    refine zq_iload_n (i := 1) C dL_isSlipSo_239 rfl rfl ?_
    refine zq_callVi C [zi a2] (wB_pull l _ _  hJ) ck_L_49 iv_X7_pull rfl sx70 rfl rfl rfl rfl rfl rfl dL_isSlipSo_240 (fun r30 M31 hJ => ?_)
    refine zq_bipush (x := (-5)) C dL_isSlipSo_243 bi_m5 ik_m5 ?_
    refine zq_icmp_ne (tgt := 252) C dL_isSlipSo_245 rfl (fun h32 => ?_) (fun h32 => ?_)
    · have hJ := hJ.1 h32
      exact hj252 _ _ _ _ hJ
    · have hJ := hJ.2 h32
      refine zq_iconst (x := 1) C dL_isSlipSo_248 rfl ik_1 ?_
      refine zq_goto (tgt := 253) C dL_isSlipSo_249 rfl ?_
      exact hj253 _ _ _ _ _ hJ
  have hj231 : ∀ (x6 x8 x11 : Int) (M : zM), jL_isSlipSo_J231 a2 Φ x6 x8 x11 M → zG X M 231 [some (zr 70), some (zi a2), none, none, none, none, some (zi x6), none, some (zi x8), none, none, some (zi x11), none] [] := by
    intro x6 x8 x11 M hJ
    unfold jL_isSlipSo_J231 at hJ
    refine zq_iload C dL_isSlipSo_231 rfl ?_
    refine zq_bipush (x := (-5)) C dL_isSlipSo_233 bi_m5 ik_m5 ?_
    refine zq_icmp_ne (tgt := 252) C dL_isSlipSo_235 rfl (fun h33 => ?_) (fun h33 => ?_)
    · have hJ := hJ.1 h33
      exact hj252 _ _ _ _ hJ
    · have hJ := hJ.2 h33
      exact hj238 _ _ _ _ hJ
  have hj195 : ∀ (x4 x6 x8 s0 : Int) (M : zM), jL_isSlipSo_J195 a2 Φ x4 x6 x8 s0 M → zG X M 195 [some (zr 70), some (zi a2), none, none, some (zi x4), none, some (zi x6), none, some (zi x8), none, none, none, none] [zi s0] := by
    intro x4 x6 x8 s0 M hJ
    unfold jL_isSlipSo_J195 at hJ
    refine zq_istore (lv' := [some (zr 70), some (zi a2), none, none, some (zi x4), none, some (zi x6), none, some (zi x8), none, some (zi s0), none, none]) C dL_isSlipSo_195 (Nat.le_of_ble_eq_true rfl) rfl ?_
    refine zq_aload_n (i := 0) C dL_isSlipSo_197 rfl rfl ?_
    refine zq_iload_n (i := 1) C dL_isSlipSo_198 rfl rfl ?_
    refine zq_callVi C [zi a2] (wB_pull l _ _  hJ) ck_L_49 iv_X7_pull rfl sx70 rfl rfl rfl rfl rfl rfl dL_isSlipSo_199 (fun r15 M16 hJ => ?_)
    refine zq_istore (lv' := [some (zr 70), some (zi a2), none, none, some (zi x4), none, some (zi x6), none, some (zi x8), none, some (zi s0), some (zi r15), none]) C dL_isSlipSo_202 (Nat.le_of_ble_eq_true rfl) rfl ?_
    refine zq_iload C dL_isSlipSo_204 rfl ?_
    refine zq_if_eq (tgt := 252) C dL_isSlipSo_206 rfl (fun h40 => ?_) (fun h40 => ?_)
    · have hJ := hJ.1 h40
      refine zq_weak [some (zr 70), some (zi a2), none, none, none, none, some (zi x6), none, some (zi x8), none, none, some (zi r15), none] ⟨Or.inr rfl, Or.inr rfl, Or.inl rfl, Or.inl rfl, Or.inl rfl, Or.inl rfl, Or.inr rfl, Or.inl rfl, Or.inr rfl, Or.inl rfl, Or.inl rfl, Or.inr rfl, Or.inl rfl, trivial⟩ ?_
      exact hj252 _ _ _ _ hJ
    · have hJ := hJ.2 h40
      refine zq_iload C dL_isSlipSo_209 rfl ?_
      refine zq_if_le (tgt := 231) C dL_isSlipSo_211 rfl (fun h39 => ?_) (fun h39 => ?_)
      · have hJ := hJ.1 h39
        refine zq_weak [some (zr 70), some (zi a2), none, none, none, none, some (zi x6), none, some (zi x8), none, none, some (zi r15), none] ⟨Or.inr rfl, Or.inr rfl, Or.inl rfl, Or.inl rfl, Or.inl rfl, Or.inl rfl, Or.inr rfl, Or.inl rfl, Or.inr rfl, Or.inl rfl, Or.inl rfl, Or.inr rfl, Or.inl rfl, trivial⟩ ?_
        exact hj231 _ _ _ _ hJ
      · have hJ := hJ.2 h39
        refine zq_aload_n (i := 0) C dL_isSlipSo_214 rfl rfl ?_
        refine zq_iload_n (i := 1) C dL_isSlipSo_215 rfl rfl ?_
        refine zq_iconst (x := 1) C dL_isSlipSo_216 rfl ik_1 ?_
        refine zq_callVi C [zi a2, zi 1] (wB_barOf l _ _ _  hJ) ck_L_20 iv_X7_barOf rfl sx70 rfl rfl rfl rfl rfl rfl dL_isSlipSo_217 (fun r34 M35 hJ => ?_)
        refine zq_iload C dL_isSlipSo_220 rfl ?_
        refine zq_iload C dL_isSlipSo_222 rfl ?_
        obtain ⟨h36, hJ⟩ := hJ
        refine zq_iadd C dL_isSlipSo_224 h36 ?_
        refine zq_iload C dL_isSlipSo_225 rfl ?_
        obtain ⟨h37, hJ⟩ := hJ
        refine zq_isub C dL_isSlipSo_227 h37 ?_
        refine zq_icmp_eq (tgt := 238) C dL_isSlipSo_228 rfl (fun h38 => ?_) (fun h38 => ?_)
        · have hJ := hJ.1 h38
          refine zq_weak [some (zr 70), some (zi a2), none, none, none, none, some (zi x6), none, some (zi x8), none, none, some (zi r15), none] ⟨Or.inr rfl, Or.inr rfl, Or.inl rfl, Or.inl rfl, Or.inl rfl, Or.inl rfl, Or.inr rfl, Or.inl rfl, Or.inr rfl, Or.inl rfl, Or.inl rfl, Or.inr rfl, Or.inl rfl, trivial⟩ ?_
          exact hj238 _ _ _ _ hJ
        · have hJ := hJ.2 h38
          refine zq_weak [some (zr 70), some (zi a2), none, none, none, none, some (zi x6), none, some (zi x8), none, none, some (zi r15), none] ⟨Or.inr rfl, Or.inr rfl, Or.inl rfl, Or.inl rfl, Or.inl rfl, Or.inl rfl, Or.inr rfl, Or.inl rfl, Or.inr rfl, Or.inl rfl, Or.inl rfl, Or.inr rfl, Or.inl rfl, trivial⟩ ?_
          exact hj231 _ _ _ _ hJ
  have hj194 : ∀ (x4 x6 x8 : Int) (M : zM), jL_isSlipSo_J194 a2 Φ x4 x6 x8 M → zG X M 194 [some (zr 70), some (zi a2), none, none, some (zi x4), none, some (zi x6), none, some (zi x8), none, none, none, none] [] := by
    intro x4 x6 x8 M hJ
    unfold jL_isSlipSo_J194 at hJ
    refine zq_iconst (x := 0) C dL_isSlipSo_194 rfl ik_0 ?_
    exact hj195 _ _ _ _ _ hJ
  have hj149 : ∀ (x4 x6 x7 x8 s0 s1 : Int) (M : zM), jL_isSlipSo_J149 a2 Φ x4 x6 x7 x8 s0 s1 M → zG X M 149 [some (zr 70), some (zi a2), none, none, some (zi x4), none, some (zi x6), some (zi x7), some (zi x8), none, none, none, none] [zi s1, zi s0] := by
    intro x4 x6 x7 x8 s0 s1 M hJ
    unfold jL_isSlipSo_J149 at hJ
    refine zq_icmp_ne (tgt := 194) C dL_isSlipSo_149 rfl (fun h54 => ?_) (fun h54 => ?_)
    · have hJ := hJ.1 h54
      refine zq_weak [some (zr 70), some (zi a2), none, none, some (zi x4), none, some (zi x6), none, some (zi x8), none, none, none, none] ⟨Or.inr rfl, Or.inr rfl, Or.inl rfl, Or.inl rfl, Or.inr rfl, Or.inl rfl, Or.inr rfl, Or.inl rfl, Or.inr rfl, Or.inl rfl, Or.inl rfl, Or.inl rfl, Or.inl rfl, trivial⟩ ?_
      exact hj194 _ _ _ _ hJ
    · have hJ := hJ.2 h54
      refine zq_aload_n (i := 0) C dL_isSlipSo_152 rfl rfl ?_
      refine zq_iload_n (i := 1) C dL_isSlipSo_153 rfl rfl ?_
      refine zq_iconst (x := 1) C dL_isSlipSo_154 rfl ik_1 ?_
      refine zq_callVi C [zi a2, zi 1] (wB_barOf l _ _ _  hJ) ck_L_20 iv_X7_barOf rfl sx70 rfl rfl rfl rfl rfl rfl dL_isSlipSo_155 (fun r43 M44 hJ => ?_)
      refine zq_iload C dL_isSlipSo_158 rfl ?_
      refine zq_iload C dL_isSlipSo_160 rfl ?_
      obtain ⟨h45, hJ⟩ := hJ
      refine zq_iadd C dL_isSlipSo_162 h45 ?_
      refine zq_icmp_ne (tgt := 194) C dL_isSlipSo_163 rfl (fun h53 => ?_) (fun h53 => ?_)
      · have hJ := hJ.1 h53
        refine zq_weak [some (zr 70), some (zi a2), none, none, some (zi x4), none, some (zi x6), none, some (zi x8), none, none, none, none] ⟨Or.inr rfl, Or.inr rfl, Or.inl rfl, Or.inl rfl, Or.inr rfl, Or.inl rfl, Or.inr rfl, Or.inl rfl, Or.inr rfl, Or.inl rfl, Or.inl rfl, Or.inl rfl, Or.inl rfl, trivial⟩ ?_
        exact hj194 _ _ _ _ hJ
      · have hJ := hJ.2 h53
        refine zq_aload_n (i := 0) C dL_isSlipSo_166 rfl rfl ?_
        refine zq_iconst (x := 4) C dL_isSlipSo_167 rfl ik_4 ?_
        refine zq_callVi C [zi 4] (wB_count l _ _  hJ) ck_L_8 iv_X7_count rfl sx70 rfl rfl rfl rfl rfl rfl dL_isSlipSo_168 (fun r46 M47 hJ => ?_)
        refine zq_iload C dL_isSlipSo_171 rfl ?_
        refine zq_icmp_gt (tgt := 194) C dL_isSlipSo_173 rfl (fun h52 => ?_) (fun h52 => ?_)
        · have hJ := hJ.1 h52
          refine zq_weak [some (zr 70), some (zi a2), none, none, some (zi x4), none, some (zi x6), none, some (zi x8), none, none, none, none] ⟨Or.inr rfl, Or.inr rfl, Or.inl rfl, Or.inl rfl, Or.inr rfl, Or.inl rfl, Or.inr rfl, Or.inl rfl, Or.inr rfl, Or.inl rfl, Or.inl rfl, Or.inl rfl, Or.inl rfl, trivial⟩ ?_
          exact hj194 _ _ _ _ hJ
        · have hJ := hJ.2 h52
          refine zq_aload_n (i := 0) C dL_isSlipSo_176 rfl rfl ?_
          refine zq_bipush (x := 12) C dL_isSlipSo_177 bi_12 ik_12 ?_
          refine zq_callVi C [zi 12] (wB_count l _ _  hJ) ck_L_8 iv_X7_count rfl sx70 rfl rfl rfl rfl rfl rfl dL_isSlipSo_179 (fun r48 M49 hJ => ?_)
          refine zq_iload C dL_isSlipSo_182 rfl ?_
          refine zq_iload C dL_isSlipSo_184 rfl ?_
          obtain ⟨h50, hJ⟩ := hJ
          refine zq_iadd C dL_isSlipSo_186 h50 ?_
          refine zq_icmp_lt (tgt := 194) C dL_isSlipSo_187 rfl (fun h51 => ?_) (fun h51 => ?_)
          · have hJ := hJ.1 h51
            refine zq_weak [some (zr 70), some (zi a2), none, none, some (zi x4), none, some (zi x6), none, some (zi x8), none, none, none, none] ⟨Or.inr rfl, Or.inr rfl, Or.inl rfl, Or.inl rfl, Or.inr rfl, Or.inl rfl, Or.inr rfl, Or.inl rfl, Or.inr rfl, Or.inl rfl, Or.inl rfl, Or.inl rfl, Or.inl rfl, trivial⟩ ?_
            exact hj194 _ _ _ _ hJ
          · have hJ := hJ.2 h51
            refine zq_iconst (x := 1) C dL_isSlipSo_190 rfl ik_1 ?_
            refine zq_goto (tgt := 195) C dL_isSlipSo_191 rfl ?_
            refine zq_weak [some (zr 70), some (zi a2), none, none, some (zi x4), none, some (zi x6), none, some (zi x8), none, none, none, none] ⟨Or.inr rfl, Or.inr rfl, Or.inl rfl, Or.inl rfl, Or.inr rfl, Or.inl rfl, Or.inr rfl, Or.inl rfl, Or.inr rfl, Or.inl rfl, Or.inl rfl, Or.inl rfl, Or.inl rfl, trivial⟩ ?_
            exact hj195 _ _ _ _ _ hJ
  have hj138 : ∀ (x3 x4 x6 x7 x8 s0 : Int) (M : zM), jL_isSlipSo_J138 a2 Φ x3 x4 x6 x7 x8 s0 M → zG X M 138 [some (zr 70), some (zi a2), none, some (zi x3), some (zi x4), none, some (zi x6), some (zi x7), some (zi x8), none, none, none, none] [zi s0] := by
    intro x3 x4 x6 x7 x8 s0 M hJ
    unfold jL_isSlipSo_J138 at hJ
    refine zq_iload C dL_isSlipSo_138 rfl ?_
    refine zq_iload_n (i := 3) C dL_isSlipSo_140 rfl rfl ?_
    refine zq_icmp_gt (tgt := 148) C dL_isSlipSo_141 rfl (fun h55 => ?_) (fun h55 => ?_)
    · have hJ := hJ.1 h55
      refine zq_iconst (x := 0) C dL_isSlipSo_148 rfl ik_0 ?_
      refine zq_weak [some (zr 70), some (zi a2), none, none, some (zi x4), none, some (zi x6), some (zi x7), some (zi x8), none, none, none, none] ⟨Or.inr rfl, Or.inr rfl, Or.inl rfl, Or.inl rfl, Or.inr rfl, Or.inl rfl, Or.inr rfl, Or.inr rfl, Or.inr rfl, Or.inl rfl, Or.inl rfl, Or.inl rfl, Or.inl rfl, trivial⟩ ?_
      exact hj149 _ _ _ _ _ _ _ hJ
    · have hJ := hJ.2 h55
      refine zq_iconst (x := 1) C dL_isSlipSo_144 rfl ik_1 ?_
      refine zq_goto (tgt := 149) C dL_isSlipSo_145 rfl ?_
      refine zq_weak [some (zr 70), some (zi a2), none, none, some (zi x4), none, some (zi x6), some (zi x7), some (zi x8), none, none, none, none] ⟨Or.inr rfl, Or.inr rfl, Or.inl rfl, Or.inl rfl, Or.inr rfl, Or.inl rfl, Or.inr rfl, Or.inr rfl, Or.inr rfl, Or.inl rfl, Or.inl rfl, Or.inl rfl, Or.inl rfl, trivial⟩ ?_
      exact hj149 _ _ _ _ _ _ _ hJ
  have hj36 : ∀ (x2 x3 s0 : Int) (M : zM), jL_isSlipSo_J36 a2 Φ x2 x3 s0 M → zG X M 36 [some (zr 70), some (zi a2), some (zi x2), some (zi x3), none, none, none, none, none, none, none, none, none] [zi s0] := by
    intro x2 x3 s0 M hJ
    unfold jL_isSlipSo_J36 at hJ
    refine zq_istore (lv' := [some (zr 70), some (zi a2), some (zi x2), some (zi x3), some (zi s0), none, none, none, none, none, none, none, none]) C dL_isSlipSo_36 (Nat.le_of_ble_eq_true rfl) rfl ?_
    refine zq_aload_n (i := 0) C dL_isSlipSo_38 rfl rfl ?_
    refine zq_iload_n (i := 1) C dL_isSlipSo_39 rfl rfl ?_
    refine zq_iload C dL_isSlipSo_40 rfl ?_
    refine zq_callVi C [zi a2, zi s0] (wB_ifSlipped l _ _ _  hJ) ck_L_81 iv_X7_ifSlipped rfl sx70 rfl rfl rfl rfl rfl rfl dL_isSlipSo_42 (fun r5 M6 hJ => ?_)
    refine zq_istore (lv' := [some (zr 70), some (zi a2), some (zi x2), some (zi x3), some (zi s0), some (zi r5), none, none, none, none, none, none, none]) C dL_isSlipSo_45 (Nat.le_of_ble_eq_true rfl) rfl ?_
    refine zq_aload_n (i := 0) C dL_isSlipSo_47 rfl rfl ?_
    refine zq_iload_n (i := 1) C dL_isSlipSo_48 rfl rfl ?_
    refine zq_iconst (x := 1) C dL_isSlipSo_49 rfl ik_1 ?_
    refine zq_callVi C [zi a2, zi 1] (wB_barOf l _ _ _  hJ) ck_L_20 iv_X7_barOf rfl sx70 rfl rfl rfl rfl rfl rfl dL_isSlipSo_50 (fun r7 M8 hJ => ?_)
    refine zq_istore (lv' := [some (zr 70), some (zi a2), some (zi x2), some (zi x3), some (zi s0), some (zi r5), some (zi r7), none, none, none, none, none, none]) C dL_isSlipSo_53 (Nat.le_of_ble_eq_true rfl) rfl ?_
    refine zq_aload_n (i := 0) C dL_isSlipSo_55 rfl rfl ?_
    refine zq_iconst (x := 4) C dL_isSlipSo_56 rfl ik_4 ?_
    refine zq_callVi C [zi 4] (wB_count l _ _  hJ) ck_L_8 iv_X7_count rfl sx70 rfl rfl rfl rfl rfl rfl dL_isSlipSo_57 (fun r9 M10 hJ => ?_)
    refine zq_istore (lv' := [some (zr 70), some (zi a2), some (zi x2), some (zi x3), some (zi s0), some (zi r5), some (zi r7), some (zi r9), none, none, none, none, none]) C dL_isSlipSo_60 (Nat.le_of_ble_eq_true rfl) rfl ?_
    refine zq_aload_n (i := 0) C dL_isSlipSo_62 rfl rfl ?_
    refine zq_bipush (x := 12) C dL_isSlipSo_63 bi_12 ik_12 ?_
    refine zq_callVi C [zi 12] (wB_count l _ _  hJ) ck_L_8 iv_X7_count rfl sx70 rfl rfl rfl rfl rfl rfl dL_isSlipSo_65 (fun r11 M12 hJ => ?_)
    refine zq_istore (lv' := [some (zr 70), some (zi a2), some (zi x2), some (zi x3), some (zi s0), some (zi r5), some (zi r7), some (zi r9), some (zi r11), none, none, none, none]) C dL_isSlipSo_68 (Nat.le_of_ble_eq_true rfl) rfl ?_
    refine zq_aload_n (i := 0) C dL_isSlipSo_70 rfl rfl ?_
    refine zq_iload_n (i := 1) C dL_isSlipSo_71 rfl rfl ?_
    refine zq_iload C dL_isSlipSo_72 rfl ?_
    refine zq_callVi C [zi a2, zi s0] (wB_slip l _ _ _  hJ) ck_L_46 iv_X7_slip rfl sx70 rfl rfl rfl rfl rfl rfl dL_isSlipSo_74 (fun r13 M14 hJ => ?_)
    refine zq_istore (lv' := [some (zr 70), some (zi a2), some (zi x2), some (zi x3), some (zi s0), some (zi r5), some (zi r7), some (zi r9), some (zi r11), some (zi r13), none, none, none]) C dL_isSlipSo_77 (Nat.le_of_ble_eq_true rfl) rfl ?_
    refine zq_iload C dL_isSlipSo_79 rfl ?_
    refine zq_sipush (x := 200) C dL_isSlipSo_81 si_200 ik_200 ?_
    refine zq_icmp_le (tgt := 111) C dL_isSlipSo_84 rfl (fun h63 => ?_) (fun h63 => ?_)
    · have hJ := hJ.1 h63
      refine zq_iload C dL_isSlipSo_111 rfl ?_
      refine zq_if_le (tgt := 194) C dL_isSlipSo_113 rfl (fun h58 => ?_) (fun h58 => ?_)
      · have hJ := hJ.1 h58
        refine zq_weak [some (zr 70), some (zi a2), none, none, some (zi s0), none, some (zi r7), none, some (zi r11), none, none, none, none] ⟨Or.inr rfl, Or.inr rfl, Or.inl rfl, Or.inl rfl, Or.inr rfl, Or.inl rfl, Or.inr rfl, Or.inl rfl, Or.inr rfl, Or.inl rfl, Or.inl rfl, Or.inl rfl, Or.inl rfl, trivial⟩ ?_
        exact hj194 _ _ _ _ hJ
      · have hJ := hJ.2 h58
        refine zq_aload_n (i := 0) C dL_isSlipSo_116 rfl rfl ?_
        refine zq_bipush (x := 6) C dL_isSlipSo_117 bi_6 ik_6 ?_
        refine zq_callVi C [zi 6] (wB_count l _ _  hJ) ck_L_8 iv_X7_count rfl sx70 rfl rfl rfl rfl rfl rfl dL_isSlipSo_119 (fun r41 M42 hJ => ?_)
        refine zq_iload C dL_isSlipSo_122 rfl ?_
        refine zq_icmp_ne (tgt := 194) C dL_isSlipSo_124 rfl (fun h57 => ?_) (fun h57 => ?_)
        · have hJ := hJ.1 h57
          refine zq_weak [some (zr 70), some (zi a2), none, none, some (zi s0), none, some (zi r7), none, some (zi r11), none, none, none, none] ⟨Or.inr rfl, Or.inr rfl, Or.inl rfl, Or.inl rfl, Or.inr rfl, Or.inl rfl, Or.inr rfl, Or.inl rfl, Or.inr rfl, Or.inl rfl, Or.inl rfl, Or.inl rfl, Or.inl rfl, trivial⟩ ?_
          exact hj194 _ _ _ _ hJ
        · have hJ := hJ.2 h57
          refine zq_iload C dL_isSlipSo_127 rfl ?_
          refine zq_iload_n (i := 2) C dL_isSlipSo_129 rfl rfl ?_
          refine zq_icmp_ne (tgt := 137) C dL_isSlipSo_130 rfl (fun h56 => ?_) (fun h56 => ?_)
          · have hJ := hJ.1 h56
            refine zq_iconst (x := 0) C dL_isSlipSo_137 rfl ik_0 ?_
            refine zq_weak [some (zr 70), some (zi a2), none, some (zi x3), some (zi s0), none, some (zi r7), some (zi r9), some (zi r11), none, none, none, none] ⟨Or.inr rfl, Or.inr rfl, Or.inl rfl, Or.inr rfl, Or.inr rfl, Or.inl rfl, Or.inr rfl, Or.inr rfl, Or.inr rfl, Or.inl rfl, Or.inl rfl, Or.inl rfl, Or.inl rfl, trivial⟩ ?_
            exact hj138 _ _ _ _ _ _ _ hJ
          · have hJ := hJ.2 h56
            refine zq_iconst (x := 1) C dL_isSlipSo_133 rfl ik_1 ?_
            refine zq_goto (tgt := 138) C dL_isSlipSo_134 rfl ?_
            refine zq_weak [some (zr 70), some (zi a2), none, some (zi x3), some (zi s0), none, some (zi r7), some (zi r9), some (zi r11), none, none, none, none] ⟨Or.inr rfl, Or.inr rfl, Or.inl rfl, Or.inr rfl, Or.inr rfl, Or.inl rfl, Or.inr rfl, Or.inr rfl, Or.inr rfl, Or.inl rfl, Or.inl rfl, Or.inl rfl, Or.inl rfl, trivial⟩ ?_
            exact hj138 _ _ _ _ _ _ _ hJ
    · have hJ := hJ.2 h63
      refine zq_iload C dL_isSlipSo_87 rfl ?_
      refine zq_bipush (x := (-4)) C dL_isSlipSo_89 bi_m4 ik_m4 ?_
      refine zq_icmp_ne (tgt := 109) C dL_isSlipSo_91 rfl (fun h62 => ?_) (fun h62 => ?_)
      · have hJ := hJ.1 h62
        refine zq_iconst (x := 0) C dL_isSlipSo_109 rfl ik_0 ?_
        exact zq_zret C rfl (Or.inl rfl) ⟨_, rfl, hJ⟩ dL_isSlipSo_110
      · have hJ := hJ.2 h62
        refine zq_aload_n (i := 0) C dL_isSlipSo_94 rfl rfl ?_
        refine zq_iload_n (i := 1) C dL_isSlipSo_95 rfl rfl ?_
        refine zq_iconst (x := 1) C dL_isSlipSo_96 rfl ik_1 ?_
        refine zq_callVi C [zi a2, zi 1] (wB_barOf l _ _ _  hJ) ck_L_20 iv_X7_barOf rfl sx70 rfl rfl rfl rfl rfl rfl dL_isSlipSo_97 (fun r59 M60 hJ => ?_)
        refine zq_iload C dL_isSlipSo_100 rfl ?_
        refine zq_icmp_ne (tgt := 109) C dL_isSlipSo_102 rfl (fun h61 => ?_) (fun h61 => ?_)
        · have hJ := hJ.1 h61
          refine zq_iconst (x := 0) C dL_isSlipSo_109 rfl ik_0 ?_
          exact zq_zret C rfl (Or.inl rfl) ⟨_, rfl, hJ⟩ dL_isSlipSo_110
        · have hJ := hJ.2 h61
          refine zq_iconst (x := 1) C dL_isSlipSo_105 rfl ik_1 ?_
          refine zq_goto (tgt := 110) C dL_isSlipSo_106 rfl ?_
          exact zq_zret C rfl (Or.inr rfl) ⟨_, rfl, hJ⟩ dL_isSlipSo_110
  refine zq_aload_n (i := 0) C dL_isSlipSo_0 rfl rfl ?_
  refine zq_bipush (x := 6) C dL_isSlipSo_1 bi_6 ik_6 ?_
  refine zq_callVi C [zi 6] (wB_count l _ _  hJ) ck_L_8 iv_X7_count rfl sx70 rfl rfl rfl rfl rfl rfl dL_isSlipSo_3 (fun r1 M2 hJ => ?_)
  refine zq_istore_n (i := 2) (lv' := [some (zr 70), some (zi a2), some (zi r1), none, none, none, none, none, none, none, none, none, none]) C dL_isSlipSo_6 rfl (Nat.le_of_ble_eq_true rfl) rfl ?_
  refine zq_aload_n (i := 0) C dL_isSlipSo_7 rfl rfl ?_
  refine zq_iload_n (i := 1) C dL_isSlipSo_8 rfl rfl ?_
  refine zq_bipush (x := 6) C dL_isSlipSo_9 bi_6 ik_6 ?_
  refine zq_callVi C [zi a2, zi 6] (wB_barOf l _ _ _  hJ) ck_L_20 iv_X7_barOf rfl sx70 rfl rfl rfl rfl rfl rfl dL_isSlipSo_11 (fun r3 M4 hJ => ?_)
  refine zq_istore_n (i := 3) (lv' := [some (zr 70), some (zi a2), some (zi r1), some (zi r3), none, none, none, none, none, none, none, none, none]) C dL_isSlipSo_14 rfl (Nat.le_of_ble_eq_true rfl) rfl ?_
  refine zq_iload_n (i := 3) C dL_isSlipSo_15 rfl rfl ?_
  refine zq_iconst (x := 1) C dL_isSlipSo_16 rfl ik_1 ?_
  refine zq_icmp_ge (tgt := 24) C dL_isSlipSo_17 rfl (fun h65 => ?_) (fun h65 => ?_)
  · have hJ := hJ.1 h65
    refine zq_iload_n (i := 3) C dL_isSlipSo_24 rfl rfl ?_
    refine zq_bipush (x := 30) C dL_isSlipSo_25 bi_30 ik_30 ?_
    refine zq_icmp_le (tgt := 35) C dL_isSlipSo_27 rfl (fun h64 => ?_) (fun h64 => ?_)
    · have hJ := hJ.1 h64
      refine zq_iload_n (i := 3) C dL_isSlipSo_35 rfl rfl ?_
      exact hj36 _ _ _ _ hJ
    · have hJ := hJ.2 h64
      refine zq_bipush (x := 30) C dL_isSlipSo_30 bi_30 ik_30 ?_
      refine zq_goto (tgt := 36) C dL_isSlipSo_32 rfl ?_
      exact hj36 _ _ _ _ hJ
  · have hJ := hJ.2 h65
    refine zq_iconst (x := 1) C dL_isSlipSo_20 rfl ik_1 ?_
    refine zq_goto (tgt := 36) C dL_isSlipSo_21 rfl ?_
    exact hj36 _ _ _ _ hJ
