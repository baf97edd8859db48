/-! printed by gen/law2.py: the law's loop -/
set_option maxRecDepth 100000 in
set_option maxHeartbeats 8000000 in
theorem law_switch {X : zY} {l : Launch} {b L : Nat} {xs : Nat → Int32} {aX aM : Nat → Nat} {q : Nat} {Mx Mm : zM} (h : lwH X l b L xs aX aM q Mx Mm) (c : Int) : zB X (zW (zYi X) aX Mx shX ++ zW (zYi X) aM Mm shM) 99 8103 32 (lvL b aX aM (4 * q)) [zi c] := by
  have C := h.1
  by_cases g0 : c = 0
  · rw [g0]; exact zb_tabIn (off := 136) (tgt := 168) C dL_law_32 (by decide) (by decide) rfl (by decide) (lc_bar h)
  by_cases g1 : c = 1
  · rw [g1]; exact zb_tabIn (off := 179) (tgt := 211) C dL_law_32 (by decide) (by decide) rfl (by decide) (lc_arrow h)
  by_cases g2 : c = 2
  · rw [g2]; exact zb_tabIn (off := 212) (tgt := 244) C dL_law_32 (by decide) (by decide) rfl (by decide) (lc_addAll h)
  by_cases g3 : c = 3
  · rw [g3]; exact zb_tabIn (off := 225) (tgt := 257) C dL_law_32 (by decide) (by decide) rfl (by decide) (lc_takeBar h)
  by_cases g4 : c = 4
  · rw [g4]; exact zb_tabIn (off := 248) (tgt := 280) C dL_law_32 (by decide) (by decide) rfl (by decide) (lc_takeArrow h)
  by_cases g5 : c = 5
  · rw [g5]; exact zb_tabIn (off := 271) (tgt := 303) C dL_law_32 (by decide) (by decide) rfl (by decide) (lc_move h)
  by_cases g6 : c = 6
  · rw [g6]; exact zb_tabIn (off := 314) (tgt := 346) C dL_law_32 (by decide) (by decide) rfl (by decide) (lc_swap h)
  by_cases g7 : c = 7
  · rw [g7]; exact zb_tabIn (off := 347) (tgt := 379) C dL_law_32 (by decide) (by decide) rfl (by decide) (lc_pack h)
  by_cases g8 : c = 8
  · rw [g8]; exact zb_tabIn (off := 360) (tgt := 392) C dL_law_32 (by decide) (by decide) rfl (by decide) (lc_slip h)
  by_cases g9 : c = 9
  · rw [g9]; exact zb_tabIn (off := 393) (tgt := 425) C dL_law_32 (by decide) (by decide) rfl (by decide) (lc_pull h)
  by_cases g10 : c = 10
  · rw [g10]; exact zb_tabIn (off := 416) (tgt := 448) C dL_law_32 (by decide) (by decide) rfl (by decide) (lc_width h)
  by_cases g11 : c = 11
  · rw [g11]; exact zb_tabIn (off := 459) (tgt := 491) C dL_law_32 (by decide) (by decide) rfl (by decide) (lc_set h)
  by_cases g12 : c = 12
  · rw [g12]; exact zb_tabIn (off := 492) (tgt := 524) C dL_law_32 (by decide) (by decide) rfl (by decide) (lc_type h)
  by_cases g13 : c = 13
  · rw [g13]; exact zb_tabIn (off := 517) (tgt := 549) C dL_law_32 (by decide) (by decide) rfl (by decide) (lc_clearText h)
  by_cases g14 : c = 14
  · rw [g14]; exact zb_tabIn (off := 530) (tgt := 562) C dL_law_32 (by decide) (by decide) rfl (by decide) (lc_fault h)
  by_cases g15 : c = 15
  · rw [g15]; exact zb_tabIn (off := 543) (tgt := 575) C dL_law_32 (by decide) (by decide) rfl (by decide) (lc_undo h)
  by_cases g16 : c = 16
  · rw [g16]; exact zb_tabIn (off := 556) (tgt := 588) C dL_law_32 (by decide) (by decide) rfl (by decide) (lc_keep h)
  by_cases g17 : c = 17
  · rw [g17]; exact zb_tabIn (off := 569) (tgt := 601) C dL_law_32 (by decide) (by decide) rfl (by decide) (lc_restore h)
  by_cases g18 : c = 18
  · rw [g18]; exact zb_tabIn (off := 582) (tgt := 614) C dL_law_32 (by decide) (by decide) rfl (by decide) (lc_barOf h)
  by_cases g19 : c = 19
  · rw [g19]; exact zb_tabIn (off := 615) (tgt := 647) C dL_law_32 (by decide) (by decide) rfl (by decide) (lc_arrowOf h)
  by_cases g20 : c = 20
  · rw [g20]; exact zb_tabIn (off := 648) (tgt := 680) C dL_law_32 (by decide) (by decide) rfl (by decide) (lc_reason h)
  by_cases g21 : c = 21
  · rw [g21]; exact zb_tabIn (off := 681) (tgt := 713) C dL_law_32 (by decide) (by decide) rfl (by decide) (lc_cell h)
  by_cases g22 : c = 22
  · rw [g22]; exact zb_tabIn (off := 714) (tgt := 746) C dL_law_32 (by decide) (by decide) rfl (by decide) (lc_strip h)
  by_cases g23 : c = 23
  · rw [g23]; exact zb_tabIn (off := 747) (tgt := 779) C dL_law_32 (by decide) (by decide) rfl (by decide) (lc_count h)
  by_cases g24 : c = 24
  · rw [g24]; exact zb_tabIn (off := 770) (tgt := 802) C dL_law_32 (by decide) (by decide) rfl (by decide) (lc_latest h)
  by_cases g25 : c = 25
  · rw [g25]; exact zb_tabIn (off := 793) (tgt := 825) C dL_law_32 (by decide) (by decide) rfl (by decide) (lc_longest h)
  by_cases g26 : c = 26
  · rw [g26]; exact zb_tabIn (off := 806) (tgt := 838) C dL_law_32 (by decide) (by decide) rfl (by decide) (lc_share h)
  by_cases g27 : c = 27
  · rw [g27]; exact zb_tabIn (off := 847) (tgt := 879) C dL_law_32 (by decide) (by decide) rfl (by decide) (lc_ifSlipped h)
  by_cases g28 : c = 28
  · rw [g28]; exact zb_tabIn (off := 880) (tgt := 912) C dL_law_32 (by decide) (by decide) rfl (by decide) (lc_bestSwap h)
  by_cases g29 : c = 29
  · rw [g29]; exact zb_tabIn (off := 903) (tgt := 935) C dL_law_32 (by decide) (by decide) rfl (by decide) (lc_bestLane h)
  exact zb_tabOut (tgt := 958) C dL_law_32 (by omega) (by decide) (h.2.2.2.2.2.2.2 Mx Mm h.2.2.2.2.1 h.2.2.2.2.2.1 (h.2.2.2.2.2.2.1.up (by omega)))
set_option maxRecDepth 100000 in
set_option maxHeartbeats 8000000 in
theorem law_loop {X : zY} {l : Launch} {b L : Nat} {xs : Nat → Int32} {aX aM : Nat → Nat} (C : zOc X l code 8 "BarStripsLaw" 11 600000 7302250 416) (hXs : zXs X b L xs) (hL : L ≤ 2048) (hEnd : ∀ ws lv, zB X ws 99 8103 965 lv [zi 1]) : ∀ (n q : Nat), n + q = 513 → ∀ Mx Mm : zM, zRM Mx → zRM Mm → PI (6000 * q) Mx Mm → zB X (zW (zYi X) aX Mx shX ++ zW (zYi X) aM Mm shM) 99 8103 18 (lvL b aX aM (4 * q)) [] := by
  intro n
  induction n with
  | zero =>
    intro q hq Mx Mm hMx hMm hP
    refine zb_iload_n (i := 3) C dL_law_18 rfl rfl ?_
    refine zb_aload_n (i := 0) C dL_law_19 rfl rfl ?_
    refine zb_slen C hXs (by omega) dL_law_20 ?_
    refine zb_iconst (x := 4) C dL_law_21 (by decide) (by decide) ?_
    refine zb_isub C dL_law_22 (by omega) ?_
    refine zb_icmp_gt (tgt := 964) C dL_law_23 rfl (fun h => ?_) (fun h => absurd (by omega) h)
    exact zb_iconst (x := 1) C dL_law_964 (by decide) (by decide) (hEnd _ _)
  | succ n ih =>
    intro q hq Mx Mm hMx hMm hP
    refine zb_iload_n (i := 3) C dL_law_18 rfl rfl ?_
    refine zb_aload_n (i := 0) C dL_law_19 rfl rfl ?_
    refine zb_slen C hXs (by omega) dL_law_20 ?_
    refine zb_iconst (x := 4) C dL_law_21 (by decide) (by decide) ?_
    refine zb_isub C dL_law_22 (by omega) ?_
    refine zb_icmp_gt (tgt := 964) C dL_law_23 rfl (fun h => ?_) (fun h => ?_)
    · exact zb_iconst (x := 1) C dL_law_964 (by decide) (by decide) (hEnd _ _)
    · refine zb_aload_n (i := 0) C dL_law_26 rfl rfl ?_
      refine zb_iload_n (i := 3) C dL_law_27 rfl rfl ?_
      refine zb_sld C hXs (by omega) (by omega) dL_law_28 ?_
      refine zb_bipush (x := 31) C dL_law_29 (by decide) (by decide) ?_
      refine zb_iand C dL_law_31 ?_
      refine law_switch ⟨C, hXs, hL, by omega, hMx, hMm, hP, fun Mx' Mm' hMx' hMm' hP' => ?_⟩ _
      refine zb_iinc (i := 3) (y := 4 * ((q + 1 : Nat) : Int)) (lv' := lvL b aX aM (4 * ((q + 1 : Nat) : Int))) C dL_law_958 rfl (by omega) (by omega) rfl ?_
      refine zb_goto (tgt := 18) C dL_law_961 rfl ?_
      exact ih (q + 1) (by omega) Mx' Mm' hMx' hMm' (hP'.up (by omega))
