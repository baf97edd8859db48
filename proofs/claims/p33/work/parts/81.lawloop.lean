/-! printed by gen/law3.py: the law's loop -/
set_option maxRecDepth 100000 in
set_option maxHeartbeats 8000000 in
theorem law_step {X : zY} {l : Launch} {b L : Nat} {xs : Nat → Int32} {aX : Nat → Nat} (C : zOc X l code 7 "BarStripsLaw" 11 600000 7302250 448) (hXs : zXs X b L xs) (hL : L ≤ 260) {e B : Int} (e0 : 0 ≤ e) (e1 : e < 48) {Mx : zM} (hMx : zRM Mx) (hB : B + 12000 ≤ 2000000000) (hp : PX B Mx) (next : ∀ (M' : zM) (v g r q : Int), zRM M' → PX (B + 12000) M' → zB X (zW (zYi X) aX M' shX ++ []) 88 3869 127 [some (zr b), some (zr (aX 70)), some (zi e), some (zi v), some (zi g), some (zi r), some (zi q)] []) : zB X (zW (zYi X) aX Mx shX ++ []) 88 3869 16 [some (zr b), some (zr (aX 70)), some (zi e), none, none, none, none] [] := by
  refine zb_aload_n (i := 0) C dL_law_16 rfl rfl ?_
  refine zb_iload_n (i := 2) C dL_law_17 rfl rfl ?_
  refine zb_callC C hXs hL e0 e1 ⟨Nat.le_of_ble_eq_true rfl, Nat.le_of_ble_eq_true rfl⟩ rfl (Nat.le_of_ble_eq_true rfl) dL_law_18 ⟨Nat.le_of_ble_eq_true rfl, Nat.le_of_ble_eq_true rfl⟩ (fun v => ?_)
  refine zb_istore_n (i := 3) (lv' := [some (zr b), some (zr (aX 70)), some (zi e), some (zi v), none, none, none]) C dL_law_21 rfl (Nat.le_of_ble_eq_true rfl) rfl ?_
  refine zb_aload_n (i := 1) C dL_law_22 rfl rfl ?_
  refine zb_iload_n (i := 3) C dL_law_23 rfl rfl ?_
  have d1 : jL_does v Mx (fun _ M' => PX (B + 6000) M') := by
    obtain ⟨A, H, h, fl, S, L2, T, hV, hX⟩ := hp
    exact does_ok (by omega) hV hX v (fun _ _ z => z)
  refine zb_callS (As := [zr 70, zi v]) (st := []) (shp := shX) (ad := aX) (M := Mx) C hMx (wL_does l v Mx (Φ := (fun _ M' => PX (B + 6000) M')) d1) ck_L_97 st_L_does rfl zas1 ⟨Nat.le_of_ble_eq_true rfl, Nat.le_of_ble_eq_true rfl⟩ rfl (fun _ h => (List.not_mem_nil h).elim) rfl (Nat.le_of_ble_eq_true rfl) dL_law_24 ⟨Nat.le_of_ble_eq_true rfl, Nat.le_of_ble_eq_true rfl⟩ zI_nr (fun w M1 hM1 hF => ?_)
  obtain ⟨g, rfl, hp1⟩ := hF
  refine zb_istore (i := 4) (lv' := [some (zr b), some (zr (aX 70)), some (zi e), some (zi v), some (zi g), none, none]) C dL_law_27 (Nat.le_of_ble_eq_true rfl) rfl ?_
  obtain ⟨A, H, h, fl, S, L2, T, hV, hX⟩ := hp1
  refine zb_aload_n (i := 1) C dL_law_29 rfl rfl ?_
  refine zb_iload_n (i := 3) C dL_law_30 rfl rfl ?_
  refine zb_bipush (x := 6) C dL_law_31 (by decide) (by decide) ?_
  refine zb_ishr C dL_law_33 ?_
  refine zb_callS (As := [zr 70, zi (zshr v 6)]) (st := []) (shp := shX) (ad := aX) (M := M1) C hM1 (wL_bar l (zshr v 6) M1 (Φ := (fun r M' => IX A H h fl S L2 T M' ∧ (r = -1 ∨ ∃ s, 0 ≤ s ∧ s < A 0 0 ∧ A 2 s = r))) (lbar_ok hV hX _ (fun _ _ z1 z2 => ⟨z1, z2⟩))) ck_L_26 st_L_bar rfl zas1 ⟨Nat.le_of_ble_eq_true rfl, Nat.le_of_ble_eq_true rfl⟩ rfl (fun _ h => (List.not_mem_nil h).elim) rfl (Nat.le_of_ble_eq_true rfl) dL_law_34 ⟨Nat.le_of_ble_eq_true rfl, Nat.le_of_ble_eq_true rfl⟩ zI_nr (fun w M2 hM2 hF => ?_)
  obtain ⟨r, rfl, hX2, hr⟩ := hF
  refine zb_istore (i := 5) (lv' := [some (zr b), some (zr (aX 70)), some (zi e), some (zi v), some (zi g), some (zi r), none]) C dL_law_37 (Nat.le_of_ble_eq_true rfl) rfl ?_
  refine zb_aload_n (i := 1) C dL_law_39 rfl rfl ?_
  refine zb_iload_n (i := 3) C dL_law_40 rfl rfl ?_
  refine zb_bipush (x := 7) C dL_law_41 (by decide) (by decide) ?_
  refine zb_ishr C dL_law_43 ?_
  refine zb_callS (As := [zr 70, zi (zshr v 7)]) (st := []) (shp := shX) (ad := aX) (M := M2) C hM2 (wL_arrow l (zshr v 7) M2 (Φ := (fun r M' => IX A H h fl S L2 T M' ∧ (r = -1 ∨ ∃ s, 0 ≤ s ∧ s < A 6 0 ∧ A 8 s = r))) (larrow_ok hV hX2 _ (fun _ _ z1 z2 => ⟨z1, z2⟩))) ck_L_58 st_L_arrow rfl zas1 ⟨Nat.le_of_ble_eq_true rfl, Nat.le_of_ble_eq_true rfl⟩ rfl (fun _ h => (List.not_mem_nil h).elim) rfl (Nat.le_of_ble_eq_true rfl) dL_law_44 ⟨Nat.le_of_ble_eq_true rfl, Nat.le_of_ble_eq_true rfl⟩ zI_nr (fun w M3 hM3 hF => ?_)
  obtain ⟨q, rfl, hX3, hq⟩ := hF
  refine zb_istore (i := 6) (lv' := [some (zr b), some (zr (aX 70)), some (zi e), some (zi v), some (zi g), some (zi r), some (zi q)]) C dL_law_47 (Nat.le_of_ble_eq_true rfl) rfl ?_
  have k99 : ∀ (H' : Int → zA) (h' : Int) (M' : zM), zRM M' → VS (B + 12000) A H' h' fl S L2 T → IX A H' h' fl S L2 T M' → zB X (zW (zYi X) aX M' shX ++ []) 88 3869 99 [some (zr b), some (zr (aX 70)), some (zi e), some (zi v), some (zi g), some (zi r), some (zi q)] [] := by
    intro H' h' M' hM' hV' hX'
    have fin : zB X (zW (zYi X) aX M' shX ++ []) 88 3869 127 [some (zr b), some (zr (aX 70)), some (zi e), some (zi v), some (zi g), some (zi r), some (zi q)] [] := next M' v g r q hM' ⟨_, _, _, _, _, _, _, hV', hX'⟩
    refine zb_iload (i := 5) C dL_law_99 rfl ?_
    refine zb_if_lt (tgt := 127) C dL_law_101 rfl (fun _ => fin) (fun hr0 => ?_)
    refine zb_iload_n (i := 2) C dL_law_104 rfl rfl ?_
    refine zb_bipush (x := 12) C dL_law_105 (by decide) (by decide) ?_
    refine zb_irem C dL_law_107 e0 (by decide) ?_
    refine zb_bipush (x := 7) C dL_law_108 (by decide) (by decide) ?_
    refine zb_icmp_ne (tgt := 127) C dL_law_110 rfl (fun _ => fin) (fun _ => ?_)
    refine zb_aload_n (i := 1) C dL_law_113 rfl rfl ?_
    refine zb_iload (i := 5) C dL_law_114 rfl ?_
    refine zb_iload_n (i := 3) C dL_law_116 rfl rfl ?_
    refine zb_iconst (x := 5) C dL_law_117 (by decide) (by decide) ?_
    refine zb_ishr C dL_law_118 ?_
    have d2 : jL_areBestSo r (zshr v 5) M' (fun w M4 => w = 1 ∧ PX (B + 12000) M4) := by
      rcases hr with z | ⟨s, s0, s1, es⟩
      · omega
      · rw [← es]
        exact bestSo_ok hV' hX' s0 s1 _ (fun _ _ _ z1 z2 => ⟨rfl, _, _, _, _, _, _, _, z1, z2⟩)
    refine zb_callS (As := [zr 70, zi r, zi (zshr v 5)]) (st := []) (shp := shX) (ad := aX) (M := M') C hM' (wL_areBestSo l r (zshr v 5) M' (Φ := (fun w M4 => w = 1 ∧ PX (B + 12000) M4)) d2) ck_L_111 st_L_areBestSo rfl zas2 ⟨Nat.le_of_ble_eq_true rfl, Nat.le_of_ble_eq_true rfl⟩ rfl (fun _ h => (List.not_mem_nil h).elim) rfl (Nat.le_of_ble_eq_true rfl) dL_law_119 ⟨Nat.le_of_ble_eq_true rfl, Nat.le_of_ble_eq_true rfl⟩ zI_nr (fun w M4 hM4 hF => ?_)
    obtain ⟨x, rfl, ex, hp4⟩ := hF
    exact zb_if_ne (tgt := 127) C dL_law_122 rfl (fun _ => next M4 v g r q hM4 hp4) (fun z => by omega)
  have k78 : ∀ M' : zM, zRM M' → IX A H h fl S L2 T M' → zB X (zW (zYi X) aX M' shX ++ []) 88 3869 78 [some (zr b), some (zr (aX 70)), some (zi e), some (zi v), some (zi g), some (zi r), some (zi q)] [] := by
    intro M' hM' hX'
    have fin := k99 H h M' hM' (hV.up (by omega)) hX'
    refine zb_iload (i := 5) C dL_law_78 rfl ?_
    refine zb_if_lt (tgt := 99) C dL_law_80 rfl (fun _ => fin) (fun hr0 => ?_)
    refine zb_iload_n (i := 2) C dL_law_83 rfl rfl ?_
    refine zb_iconst (x := 3) C dL_law_84 (by decide) (by decide) ?_
    refine zb_irem C dL_law_85 e0 (by decide) ?_
    refine zb_iconst (x := 2) C dL_law_86 (by decide) (by decide) ?_
    refine zb_icmp_ne (tgt := 99) C dL_law_87 rfl (fun _ => fin) (fun _ => ?_)
    refine zb_aload_n (i := 1) C dL_law_90 rfl rfl ?_
    refine zb_iload (i := 5) C dL_law_91 rfl ?_
    have d2 : jL_isSlipSo r M' (fun w M4 => w = 1 ∧ ∃ H' h', VS (B + 12000) A H' h' fl S L2 T ∧ IX A H' h' fl S L2 T M4) := by
      rcases hr with z | ⟨s, s0, s1, es⟩
      · omega
      · rw [← es]
        exact slipSo_ok (by omega) hV hX' s0 s1 (fun _ _ _ z1 z2 => ⟨rfl, _, _, z1.up (by omega), z2⟩)
    refine zb_callS (As := [zr 70, zi r]) (st := []) (shp := shX) (ad := aX) (M := M') C hM' (wL_isSlipSo l r M' (Φ := (fun w M4 => w = 1 ∧ ∃ H' h', VS (B + 12000) A H' h' fl S L2 T ∧ IX A H' h' fl S L2 T M4)) d2) ck_L_108 st_L_isSlipSo rfl zas1 ⟨Nat.le_of_ble_eq_true rfl, Nat.le_of_ble_eq_true rfl⟩ rfl (fun _ h => (List.not_mem_nil h).elim) rfl (Nat.le_of_ble_eq_true rfl) dL_law_93 ⟨Nat.le_of_ble_eq_true rfl, Nat.le_of_ble_eq_true rfl⟩ zI_nr (fun w M4 hM4 hF => ?_)
    obtain ⟨x, rfl, ex, H', h', hV4, hX4⟩ := hF
    exact zb_if_eq (tgt := 125) C dL_law_96 rfl (fun z => by omega) (fun _ => k99 H' h' M4 hM4 hV4 hX4)
  have k64 : ∀ M' : zM, zRM M' → IX A H h fl S L2 T M' → zB X (zW (zYi X) aX M' shX ++ []) 88 3869 64 [some (zr b), some (zr (aX 70)), some (zi e), some (zi v), some (zi g), some (zi r), some (zi q)] [] := by
    intro M' hM' hX'
    refine zb_iload (i := 6) C dL_law_64 rfl ?_
    refine zb_if_lt (tgt := 78) C dL_law_66 rfl (fun _ => k78 M' hM' hX') (fun hq0 => ?_)
    refine zb_aload_n (i := 1) C dL_law_69 rfl rfl ?_
    refine zb_iload (i := 6) C dL_law_70 rfl ?_
    have d2 : jL_isArrowSo q M' (fun w M4 => w = 1 ∧ IX A H h fl S L2 T M4) := by
      rcases hq with z | ⟨s, s0, s1, es⟩
      · omega
      · rw [← es]
        exact arrowSo_ok hV hX' s0 s1 (fun _ z => ⟨rfl, z⟩)
    refine zb_callS (As := [zr 70, zi q]) (st := []) (shp := shX) (ad := aX) (M := M') C hM' (wL_isArrowSo l q M' (Φ := (fun w M4 => w = 1 ∧ IX A H h fl S L2 T M4)) d2) ck_L_104 st_L_isArrowSo rfl zas1 ⟨Nat.le_of_ble_eq_true rfl, Nat.le_of_ble_eq_true rfl⟩ rfl (fun _ h => (List.not_mem_nil h).elim) rfl (Nat.le_of_ble_eq_true rfl) dL_law_72 ⟨Nat.le_of_ble_eq_true rfl, Nat.le_of_ble_eq_true rfl⟩ zI_nr (fun w M4 hM4 hF => ?_)
    obtain ⟨x, rfl, ex, hX4⟩ := hF
    exact zb_if_eq (tgt := 125) C dL_law_75 rfl (fun z => by omega) (fun _ => k78 M4 hM4 hX4)
  refine zb_iload_n (i := 2) C dL_law_49 rfl rfl ?_
  refine zb_bipush (x := 8) C dL_law_50 (by decide) (by decide) ?_
  refine zb_irem C dL_law_52 e0 (by decide) ?_
  refine zb_iconst (x := 1) C dL_law_53 (by decide) (by decide) ?_
  refine zb_icmp_ne (tgt := 64) C dL_law_54 rfl (fun _ => k64 M3 hM3 hX3) (fun _ => ?_)
  refine zb_aload_n (i := 1) C dL_law_57 rfl rfl ?_
  refine zb_callS (As := [zr 70]) (st := []) (shp := shX) (ad := aX) (M := M3) C hM3 (wL_isChartSo l M3 (Φ := (fun w M4 => w = 1 ∧ IX A H h fl S L2 T M4)) (chartSo_ok hV hX3 (fun _ z => ⟨rfl, z⟩))) ck_L_100 st_L_isChartSo rfl zas0 ⟨Nat.le_of_ble_eq_true rfl, Nat.le_of_ble_eq_true rfl⟩ rfl (fun _ h => (List.not_mem_nil h).elim) rfl (Nat.le_of_ble_eq_true rfl) dL_law_58 ⟨Nat.le_of_ble_eq_true rfl, Nat.le_of_ble_eq_true rfl⟩ zI_nr (fun w M4 hM4 hF => ?_)
  obtain ⟨x, rfl, ex, hX4⟩ := hF
  exact zb_if_eq (tgt := 125) C dL_law_61 rfl (fun z => by omega) (fun _ => k64 M4 hM4 hX4)
set_option maxRecDepth 100000 in
set_option maxHeartbeats 8000000 in
theorem law_loop {X : zY} {l : Launch} {b L : Nat} {xs : Nat → Int32} {aX : Nat → Nat} (C : zOc X l code 7 "BarStripsLaw" 11 600000 7302250 448) (hXs : zXs X b L xs) (hL : L ≤ 260) (hEnd : ∀ ws lv, zB X ws 88 3869 134 lv [zi 1]) : ∀ (n q : Nat), n + q = 48 → ∀ M : zM, zRM M → PX (12000 * q) M → zB X (zW (zYi X) aX M shX ++ []) 88 3869 10 [some (zr b), some (zr (aX 70)), some (zi q), none, none, none, none] [] := by
  intro n
  induction n with
  | zero =>
    intro q hq M hM hp
    refine zb_iload_n (i := 2) C dL_law_10 rfl rfl ?_
    refine zb_bipush (x := 48) C dL_law_11 (by decide) (by decide) ?_
    refine zb_icmp_ge (tgt := 133) C dL_law_13 rfl (fun _ => ?_) (fun h => absurd (by omega) h)
    exact zb_iconst (x := 1) C dL_law_133 (by decide) (by decide) (hEnd _ _)
  | succ n ih =>
    intro q hq M hM hp
    refine zb_iload_n (i := 2) C dL_law_10 rfl rfl ?_
    refine zb_bipush (x := 48) C dL_law_11 (by decide) (by decide) ?_
    refine zb_icmp_ge (tgt := 133) C dL_law_13 rfl (fun h => absurd h (by omega)) (fun _ => ?_)
    refine law_step C hXs hL (e := (q : Int)) (by omega) (by omega) hM (by omega) hp (fun M' v g r z hM' hp' => ?_)
    refine zb_iinc (i := 2) (y := ((q + 1 : Nat) : Int)) (lv' := [some (zr b), some (zr (aX 70)), some (zi ((q + 1 : Nat) : Int)), some (zi v), some (zi g), some (zi r), some (zi z)]) C dL_law_127 rfl (by omega) (by omega) rfl ?_
    refine zb_goto (tgt := 10) C dL_law_130 rfl ?_
    refine zb_weak [some (zr b), some (zr (aX 70)), some (zi ((q + 1 : Nat) : Int)), none, none, none, none] ⟨Or.inr rfl, Or.inr rfl, Or.inr rfl, Or.inl rfl, Or.inl rfl, Or.inl rfl, Or.inl rfl, trivial⟩ ?_
    exact ih (q + 1) (by omega) M' hM' (hp'.up (by omega))
