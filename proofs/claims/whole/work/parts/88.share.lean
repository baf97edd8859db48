/-! the share in the law -/
set_option maxRecDepth 100000 in
set_option maxHeartbeats 4000000 in
theorem lc_share {X : zY} {l : Launch} {b L : Nat} {xs : Nat → Int32} {aX aM : Nat → Nat} {q : Nat} {Mx Mm : zM} (h : lwH X l b L xs aX aM q Mx Mm) : zB X (zW (zYi X) aX Mx shX ++ zW (zYi X) aM Mm shM) 99 8103 838 (lvL b aX aM (4 * q)) [] := by
  obtain ⟨C, hXs, hL, hi, hMx, hMm, hPI, next⟩ := h
  unfold lvL at next ⊢
  refine zb_aload_n (i := 1) C dL_law_838 rfl rfl ?_
  refine zb_callV (ret' := some .double) (i := 70) (ci := 7) (shp := shX) (ad := aX) (M := Mx) (As := []) (st := []) C hMx (wB_share l Mx (share_pair hPI)) zc_L_122 zv_X7_share rfl rfl rfl zra0 ⟨Nat.le_of_ble_eq_true rfl, Nat.le_of_ble_eq_true rfl⟩ rfl (fun _ h => (List.not_mem_nil h).elim) rfl (Nat.le_of_ble_eq_true rfl) dL_law_839 ⟨Nat.le_of_ble_eq_true rfl, Nat.le_of_ble_eq_true rfl⟩ (fun v M' h j e => by obtain ⟨z, rfl, _⟩ := h; cases e) (fun v Mx' hMx' hF => ?_)
  obtain ⟨x, rfl, eM, hJ⟩ := hF
  subst eM
  refine zb_perm List.perm_append_comm ?_
  obtain ⟨p, l', e, R, s, m, args, below, meth, c, D, ids, A, Q⟩ := X
  obtain ⟨rfl, hx, hb, hml, hown, hts, hK, hA, hE, hR1, hR2, hR3, hR4⟩ := C
  intro hV H locs ls hP hD hS hL1
  refine lv_dstore (lv' := [(4, .double x), (0, .ref b), (1, .ref (aX 70)), (2, .ref (aM 0)), (3, .int (Int32.ofInt (4 * q)))]) hx hb dL_law_842 (zL_to hL1) (Nat.le_of_ble_eq_true rfl) rfl (fun ls1 hl1 => ?_)
  refine lv_aload_n hx hb dL_law_844 rfl (lv_at hl1 3 rfl) ?_
  obtain ⟨c1, c2, c3, c4⟩ := zc_L_126
  have hcut := z_cut hP hD
  have hs0 : shM[0]? = some (0, 8, [some 1, some 2, some 3, none, some 4, none, some 5, none, some 6, some 7, some 8, some 9, none, none, some 10]) := rfl
  refine z_afterG (wr := zW ids aX Mx shX) (ids := ids) (ad := aM) (M := Mm) (shp := shM) (ret' := some .double) (F' := fun v M' => ∃ z, v = zd z ∧ Mm = M' ∧ z = x) (va_runV (As := []) (rest := []) (b := aM 0) (own := "BarStripsLaw") (nL := 8) (C := yX8_share.cls) ⟨hx, hb, hml, hown, hts⟩ (wM_share l' Mm (Φ := fun y => y = x) hJ hMm (fun z hz => by rcases List.mem_cons.mp hz with h | h; cases h; exact (List.not_mem_nil h).elim) D ids aM H.size) ⟨callB_of 0 hts (z_good c3) rfl rfl rfl (hts _ c2) (hts _ c1) c4 ⟨Nat.le_trans (Nat.le_of_ble_eq_true rfl) hR1, Nat.le_trans (Nat.le_of_ble_eq_true rfl) hR4⟩, hts _ zv_X8_share.1, hts _ zv_X8_share.2⟩ ⟨z_blind, va_recv hK hcut.1 (ci := 8) (q0 := 0) rfl (zW_get (ids := ids) (ad := aM) (M := Mm) hs0), fun U hU hW => ⟨rfl, by rw [hU], by rw [hU]; exact hcut.1, va_K.moved hW.alike hK, hcut.2.weaken (fun _ _ _ _ => trivial), hE.1.warm hW⟩⟩ rfl rfl hl1.1 rfl (lv_room (Nat.le_of_ble_eq_true rfl)) dL_law_845 ⟨Nat.le_trans (Nat.le_of_ble_eq_true rfl) hR2, Nat.le_trans (Nat.le_of_ble_eq_true rfl) hR3⟩) hS hP hD hA (fun v M' H1 locs1 hz hM' hF' hP1 hD1 hS1 => ?_)
  obtain ⟨y, rfl, eM, ey⟩ := hF'
  subst eM
  subst ey
  show W p l' e R s m args below meth c H1 locs1 99 8103 Q (F0 m 848 ls1 [.double y])
  refine lv_dstore (lv' := [(6, .double y), (4, .double y), (0, .ref b), (1, .ref (aX 70)), (2, .ref (aM 0)), (3, .int (Int32.ofInt (4 * q)))]) hx hb dL_law_848 hl1 (Nat.le_of_ble_eq_true rfl) rfl (fun ls2 hl2 => ?_)
  have fin : W p l' e R s m args below meth c H1 locs1 99 8103 Q (F0 m 876 ls2 []) := by
    refine lv_goto (tgt := 958) hx hb dL_law_876 (by decide) ?_
    refine next Mx Mm hMx hMm (hPI.up (by omega)) ⟨fun z hz => ?_, fun z hz => (List.not_mem_nil hz).elim, fun d hd => ?_⟩ H1 locs1 ls2 (va_P_perm List.perm_append_comm hP1) (va_D_perm List.perm_append_comm hD1) hS1 ⟨hl2.1, hl2.2.1, fun i v hi => ?_⟩
    · exact hV.1 z hz
    · exact hV.2.2 d hd
    · rcases i with _ | _ | _ | _ | _ | _ | _ | _ | i
      · cases hi; exact hl2.2.2 (0, .ref b) (List.mem_of_getElem? (i := 2) rfl)
      · cases hi; exact hl2.2.2 (1, .ref (aX 70)) (List.mem_of_getElem? (i := 3) rfl)
      · cases hi; exact hl2.2.2 (2, .ref (aM 0)) (List.mem_of_getElem? (i := 4) rfl)
      · cases hi; exact hl2.2.2 (3, .int (Int32.ofInt (4 * q))) (List.mem_of_getElem? (i := 5) rfl)
      · cases hi
      · cases hi
      · cases hi
      · cases hi
      · cases hi
  refine lv_dload hx hb dL_law_850 (lv_at hl2 1 rfl) ?_
  refine lv_dload hx hb dL_law_852 (lv_at hl2 0 rfl) ?_
  refine lv_dcmp hx hb dL_law_854 ?_
  refine lv_if_eq (tgt := 876) hx hb dL_law_855 (by decide) (fun _ => fin) (fun hne => ?_)
  refine lv_dload hx hb dL_law_858 (lv_at hl2 1 rfl) ?_
  refine lv_dload hx hb dL_law_860 (lv_at hl2 1 rfl) ?_
  refine lv_dcmp hx hb dL_law_862 ?_
  refine lv_if_eq (tgt := 874) hx hb dL_law_863 (by decide) (fun he => absurd he hne) (fun _ => ?_)
  refine lv_dload hx hb dL_law_866 (lv_at hl2 0 rfl) ?_
  refine lv_dload hx hb dL_law_868 (lv_at hl2 0 rfl) ?_
  refine lv_dcmp hx hb dL_law_870 ?_
  exact lv_if_ne (tgt := 876) hx hb dL_law_871 (by decide) (fun _ => fin) (fun he => absurd he hne)
