/-! printed by gen/inits3.py: the constructor of BarStrips, walked -/
set_option maxRecDepth 100000 in
set_option maxHeartbeats 8000000 in
theorem ini_X7 (l : Launch) : zIni l yX7_init cX7_init 1 3 87 3859 64 7 fsX7 70 shX poX7 := by
  refine zb_enter (by decide) rfl (by decide) (fun X h0 C hI E => ?_)
  refine zb_aload_n (i := 0) C dX7_init_0 rfl rfl ?_
  refine zb_objInit C tn_17 tn_18 tn_19 rfl (by decide) (by decide) dX7_init_1 ?_
  show zB X ([(h0, .inr (7, [.null, .null, .null, .int 0, .null, .null, .null, .null, .null, .null]))] ++ []) 0 0 4 [some (zr h0)] []
  refine zb_aload_n (i := 0) C dX7_init_4 rfl rfl ?_
  refine zb_newI (root := 0) C nk_X7_7 (ini_X0 l) zc_X7_9 tn_23 rfl (by decide) (by decide) (Nat.le_of_ble_eq_true rfl) (Nat.le_of_ble_eq_true rfl) rfl (Nat.le_of_ble_eq_true rfl) dX7_init_5 dX7_init_8 dX7_init_9 (fun a0 M0 hM0 hp0 => ?_)
  refine zb_widen (k := 10) (n := 456) (Nat.le_of_ble_eq_true rfl) (Nat.le_of_ble_eq_true rfl) ?_
  refine zb_putF1 (fs' := [.ref (a0 0), .null, .null, .int 0, .null, .null, .null, .null, .null, .null]) C hI fk_X7_10 (fun _ _ _ h => by cases h; rfl) rfl rfl (Nat.le_of_ble_eq_true rfl) rfl dX7_init_12 ?_
  refine zb_aload_n (i := 0) C dX7_init_15 rfl rfl ?_
  refine zb_newI (root := 0) C nk_X7_7 (ini_X0 l) zc_X7_9 tn_23 rfl (by decide) (by decide) (Nat.le_of_ble_eq_true rfl) (Nat.le_of_ble_eq_true rfl) rfl (Nat.le_of_ble_eq_true rfl) dX7_init_16 dX7_init_19 dX7_init_20 (fun a1 M1 hM1 hp1 => ?_)
  refine zb_widen (k := 20) (n := 912) (Nat.le_of_ble_eq_true rfl) (Nat.le_of_ble_eq_true rfl) ?_
  refine zb_putF1 (fs' := [.ref (a0 0), .ref (a1 0), .null, .int 0, .null, .null, .null, .null, .null, .null]) C hI fk_X7_16 (fun _ _ _ h => by cases h; rfl) rfl rfl (Nat.le_of_ble_eq_true rfl) rfl dX7_init_23 ?_
  refine zb_aload_n (i := 0) C dX7_init_26 rfl rfl ?_
  refine zb_newI (root := 0) C nk_X7_7 (ini_X0 l) zc_X7_9 tn_23 rfl (by decide) (by decide) (Nat.le_of_ble_eq_true rfl) (Nat.le_of_ble_eq_true rfl) rfl (Nat.le_of_ble_eq_true rfl) dX7_init_27 dX7_init_30 dX7_init_31 (fun a2 M2 hM2 hp2 => ?_)
  refine zb_widen (k := 30) (n := 1368) (Nat.le_of_ble_eq_true rfl) (Nat.le_of_ble_eq_true rfl) ?_
  refine zb_putF1 (fs' := [.ref (a0 0), .ref (a1 0), .ref (a2 0), .int 0, .null, .null, .null, .null, .null, .null]) C hI fk_X7_19 (fun _ _ _ h => by cases h; rfl) rfl rfl (Nat.le_of_ble_eq_true rfl) rfl dX7_init_34 ?_
  refine zb_aload_n (i := 0) C dX7_init_37 rfl rfl ?_
  refine zb_newI (root := 0) C nk_X7_22 (ini_X3 l) zc_X7_24 tn_104 rfl (by decide) (by decide) (Nat.le_of_ble_eq_true rfl) (Nat.le_of_ble_eq_true rfl) rfl (Nat.le_of_ble_eq_true rfl) dX7_init_38 dX7_init_41 dX7_init_42 (fun a3 M3 hM3 hp3 => ?_)
  refine zb_widen (k := 72) (n := 3199) (Nat.le_of_ble_eq_true rfl) (Nat.le_of_ble_eq_true rfl) ?_
  refine zb_putF1 (fs' := [.ref (a0 0), .ref (a1 0), .ref (a2 0), .int 0, .ref (a3 0), .null, .null, .null, .null, .null]) C hI fk_X7_25 (fun _ _ _ h => by cases h; rfl) rfl rfl (Nat.le_of_ble_eq_true rfl) rfl dX7_init_45 ?_
  refine zb_aload_n (i := 0) C dX7_init_48 rfl rfl ?_
  refine zb_newIN (root := 0) C nk_X7_29 (ini_X4 l) (show Cond.methodLinkNest RX7 31 yX4_init "BarStrips" ∈ zNi from List.mem_of_getElem? (i := 0) rfl) tn_5 tn_125 (by decide +kernel) tn_124 rfl (by decide) (by decide) (Nat.le_of_ble_eq_true rfl) (Nat.le_of_ble_eq_true rfl) rfl (Nat.le_of_ble_eq_true rfl) dX7_init_49 dX7_init_52 dX7_init_53 (fun a4 M4 hM4 hp4 => ?_)
  refine zb_widen (k := 77) (n := 3316) (Nat.le_of_ble_eq_true rfl) (Nat.le_of_ble_eq_true rfl) ?_
  refine zb_putF1 (fs' := [.ref (a0 0), .ref (a1 0), .ref (a2 0), .int 0, .ref (a3 0), .ref (a4 0), .null, .null, .null, .null]) C hI fk_X7_32 (fun _ _ _ h => by cases h; rfl) rfl rfl (Nat.le_of_ble_eq_true rfl) rfl dX7_init_56 ?_
  refine zb_aload_n (i := 0) C dX7_init_59 rfl rfl ?_
  refine zb_newIN (root := 0) C nk_X7_36 (ini_X5 l) (show Cond.methodLinkNest RX7 38 yX5_init "BarStrips" ∈ zNi from List.mem_of_getElem? (i := 1) rfl) tn_6 tn_156 (by decide +kernel) tn_155 rfl (by decide) (by decide) (Nat.le_of_ble_eq_true rfl) (Nat.le_of_ble_eq_true rfl) rfl (Nat.le_of_ble_eq_true rfl) dX7_init_60 dX7_init_63 dX7_init_64 (fun a5 M5 hM5 hp5 => ?_)
  refine zb_widen (k := 81) (n := 3409) (Nat.le_of_ble_eq_true rfl) (Nat.le_of_ble_eq_true rfl) ?_
  refine zb_putF1 (fs' := [.ref (a0 0), .ref (a1 0), .ref (a2 0), .int 0, .ref (a3 0), .ref (a4 0), .ref (a5 0), .null, .null, .null]) C hI fk_X7_39 (fun _ _ _ h => by cases h; rfl) rfl rfl (Nat.le_of_ble_eq_true rfl) rfl dX7_init_67 ?_
  refine zb_aload_n (i := 0) C dX7_init_70 rfl rfl ?_
  refine zb_newIN (root := 0) C nk_X7_43 (ini_X2 l) (show Cond.methodLinkNest RX7 45 yX2_init "BarStrips" ∈ zNi from List.mem_of_getElem? (i := 2) rfl) tn_7 tn_174 (by decide +kernel) tn_173 rfl (by decide) (by decide) (Nat.le_of_ble_eq_true rfl) (Nat.le_of_ble_eq_true rfl) rfl (Nat.le_of_ble_eq_true rfl) dX7_init_71 dX7_init_74 dX7_init_75 (fun a6 M6 hM6 hp6 => ?_)
  refine zb_widen (k := 84) (n := 3652) (Nat.le_of_ble_eq_true rfl) (Nat.le_of_ble_eq_true rfl) ?_
  refine zb_putF1 (fs' := [.ref (a0 0), .ref (a1 0), .ref (a2 0), .int 0, .ref (a3 0), .ref (a4 0), .ref (a5 0), .ref (a6 0), .null, .null]) C hI fk_X7_46 (fun _ _ _ h => by cases h; rfl) rfl rfl (Nat.le_of_ble_eq_true rfl) rfl dX7_init_78 ?_
  refine zb_aload_n (i := 0) C dX7_init_81 rfl rfl ?_
  refine zb_newIN (root := 0) C nk_X7_50 (ini_X1 l) (show Cond.methodLinkNest RX7 52 yX1_init "BarStrips" ∈ zNi from List.mem_of_getElem? (i := 3) rfl) tn_8 tn_193 (by decide +kernel) tn_192 rfl (by decide) (by decide) (Nat.le_of_ble_eq_true rfl) (Nat.le_of_ble_eq_true rfl) rfl (Nat.le_of_ble_eq_true rfl) dX7_init_82 dX7_init_85 dX7_init_86 (fun a7 M7 hM7 hp7 => ?_)
  refine zb_widen (k := 86) (n := 3855) (Nat.le_of_ble_eq_true rfl) (Nat.le_of_ble_eq_true rfl) ?_
  refine zb_putF1 (fs' := [.ref (a0 0), .ref (a1 0), .ref (a2 0), .int 0, .ref (a3 0), .ref (a4 0), .ref (a5 0), .ref (a6 0), .ref (a7 0), .null]) C hI fk_X7_53 (fun _ _ _ h => by cases h; rfl) rfl rfl (Nat.le_of_ble_eq_true rfl) rfl dX7_init_89 ?_
  refine zb_aload_n (i := 0) C dX7_init_92 rfl rfl ?_
  refine zb_newIN (root := 0) C nk_X7_57 (ini_X6 l) (show Cond.methodLinkNest RX7 59 yX6_init "BarStrips" ∈ zNi from List.mem_of_getElem? (i := 4) rfl) tn_9 tn_208 (by decide +kernel) tn_207 rfl (by decide) (by decide) (Nat.le_of_ble_eq_true rfl) (Nat.le_of_ble_eq_true rfl) rfl (Nat.le_of_ble_eq_true rfl) dX7_init_93 dX7_init_96 dX7_init_97 (fun a8 M8 hM8 hp8 => ?_)
  refine zb_widen (k := 87) (n := 3859) (Nat.le_of_ble_eq_true rfl) (Nat.le_of_ble_eq_true rfl) ?_
  refine zb_putF1 (fs' := [.ref (a0 0), .ref (a1 0), .ref (a2 0), .int 0, .ref (a3 0), .ref (a4 0), .ref (a5 0), .ref (a6 0), .ref (a7 0), .ref (a8 0)]) C hI fk_X7_60 (fun _ _ _ h => by cases h; rfl) rfl rfl (Nat.le_of_ble_eq_true rfl) rfl dX7_init_100 ?_
  refine zb_perm (wX7 (zYi X) h0 a0 a1 a2 a3 a4 a5 a6 a7 a8 M0 M1 M2 M3 M4 M5 M6 M7 M8) ?_
  exact E (adX7 h0 a0 a1 a2 a3 a4 a5 a6 a7 a8) (mmX7 M0 M1 M2 M3 M4 M5 M6 M7 M8) _ _ _ _ rfl (mX7_rm hM0 hM1 hM2 hM3 hM4 hM5 hM6 hM7 hM8) ⟨⟨M0, hp0, fun i hi => by unfold mmX7; rw [if_pos hi]; congr 1⟩, rfl, hp3.1, hp3.2, by show M4 0 1 = 0; rw [show M4 = fun _ _ => 0 from hp4]⟩ (Nat.le_of_ble_eq_true rfl) (Nat.le_of_ble_eq_true rfl) dX7_init_103
