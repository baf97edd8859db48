/-! printed by gen/inits3.py: the constructor of BarStrips -/
def fsX7 : List Value := [.null, .null, .null, .int 0, .null, .null, .null, .null, .null, .null]
theorem nk_X7_7 : zNk RX7 7 RX0 TX0 14 0 fsX0 := ⟨tn_20, tn_21, tn_2, inX0, rfl, tyX0, tyX0_ok, fun j hj => by rcases (show j = 0 ∨ j = 1 ∨ j = 2 ∨ j = 3 ∨ j = 4 ∨ j = 5 ∨ j = 6 ∨ j = 7 ∨ j = 8 ∨ j = 9 ∨ j = 10 ∨ j = 11 ∨ j = 12 ∨ j = 13 by omega) with rfl | rfl | rfl | rfl | rfl | rfl | rfl | rfl | rfl | rfl | rfl | rfl | rfl | rfl <;> rfl⟩
theorem nk_X7_22 : zNk RX7 22 RX3 TX3 3 3 fsX3 := ⟨tn_101, tn_102, tn_4, inX3, rfl, tyX3, tyX3_ok, fun j hj => by rcases (show j = 0 ∨ j = 1 ∨ j = 2 by omega) with rfl | rfl | rfl <;> rfl⟩
theorem nk_X7_29 : zNk RX7 29 RX4 TX4 9 4 fsX4 := ⟨tn_121, tn_122, tn_5, inX4, rfl, tyX4, tyX4_ok, fun j hj => by rcases (show j = 0 ∨ j = 1 ∨ j = 2 ∨ j = 3 ∨ j = 4 ∨ j = 5 ∨ j = 6 ∨ j = 7 ∨ j = 8 by omega) with rfl | rfl | rfl | rfl | rfl | rfl | rfl | rfl | rfl <;> rfl⟩
theorem nk_X7_36 : zNk RX7 36 RX5 TX5 3 5 fsX5 := ⟨tn_152, tn_153, tn_6, inX5, rfl, tyX5, tyX5_ok, fun j hj => by rcases (show j = 0 ∨ j = 1 ∨ j = 2 by omega) with rfl | rfl | rfl <;> rfl⟩
theorem nk_X7_43 : zNk RX7 43 RX2 TX2 3 2 fsX2 := ⟨tn_170, tn_171, tn_7, inX2, rfl, tyX2, tyX2_ok, fun j hj => by rcases (show j = 0 ∨ j = 1 ∨ j = 2 by omega) with rfl | rfl | rfl <;> rfl⟩
theorem nk_X7_50 : zNk RX7 50 RX1 TX1 2 1 fsX1 := ⟨tn_189, tn_190, tn_8, inX1, rfl, tyX1, tyX1_ok, fun j hj => by rcases (show j = 0 ∨ j = 1 by omega) with rfl | rfl <;> rfl⟩
theorem nk_X7_57 : zNk RX7 57 RX6 TX6 4 6 fsX6 := ⟨tn_204, tn_205, tn_9, inX6, rfl, tyX6, tyX6_ok, fun j hj => by rcases (show j = 0 ∨ j = 1 ∨ j = 2 ∨ j = 3 by omega) with rfl | rfl | rfl | rfl <;> rfl⟩
theorem zc_X7_9 : zCb RX7 9 yX0_init cX0_init 1 none 0 := ⟨tn_22, tn_2, tn_24, by decide +kernel⟩
theorem zc_X7_24 : zCb RX7 24 yX3_init cX3_init 2 none 0 := ⟨tn_103, tn_4, tn_105, by decide +kernel⟩
theorem zb_putF1 {X : zY} {l : Launch} {cc : ByteArray} {nL : Nat} {own : String} {f kc ks w : Nat} {ws : va_W} {ck sn pc : Nat} {lv : List (Option zV)} {st : List zV} (C : zOc X l cc nL own f kc ks w) (hin2 : zYn X) {idx ci k0 h0 : Nat} {ty : FieldType} {fs fs' : List Value} {v : zV} (hF : zFok own idx ci k0 ty true) (hdecl : ∀ (CC : String) (T : u_T) (N : Nat), vwCl[ci]? = some (CC, T, N) → (T k0).1 = own) (hn : narrow ty (zcv (fun a => a) v) = zcv (fun a => a) v) (hfit : fits ty (zcv (fun a => a) v) = true) (hl : k0 < fs.length) (hfs : fs.set k0 (zcv (fun a => a) v) = fs') (d : decode cc pc = .ok (.putfield idx, 3)) (k : zB X ([(h0, .inr (ci, fs'))] ++ ws) ck sn (pc + 3) lv st) : zB X ([(h0, .inr (ci, fs))] ++ ws) ck sn pc lv (v :: zr h0 :: st) := zb_putF C hin2 hF hdecl hn hfit hl hfs d k
def adX7 (h0 : Nat) (a0 : Nat → Nat) (a1 : Nat → Nat) (a2 : Nat → Nat) (a3 : Nat → Nat) (a4 : Nat → Nat) (a5 : Nat → Nat) (a6 : Nat → Nat) (a7 : Nat → Nat) (a8 : Nat → Nat) : Nat → Nat := fun i => if i < 10 then a0 (i - 0 + 0) else if i < 20 then a1 (i - 10 + 0) else if i < 30 then a2 (i - 20 + 0) else if i < 40 then a3 (i - 30 + 32) else if i < 50 then a3 (i - 40 + 22) else if i < 60 then a3 (i - 50 + 12) else if i < 70 then a3 (i - 60 + 2) else if i < 71 then h0 else if i < 73 then a3 (i - 71 + 0) else if i < 78 then a4 (i - 73 + 0) else if i < 82 then a5 (i - 78 + 0) else if i < 85 then a6 (i - 82 + 0) else if i < 87 then a7 (i - 85 + 0) else a8 (i - 87 + 0)
def mmX7 (M0 : zM) (M1 : zM) (M2 : zM) (M3 : zM) (M4 : zM) (M5 : zM) (M6 : zM) (M7 : zM) (M8 : zM) : zM := fun i => if i < 10 then M0 (i - 0 + 0) else if i < 20 then M1 (i - 10 + 0) else if i < 30 then M2 (i - 20 + 0) else if i < 40 then M3 (i - 30 + 32) else if i < 50 then M3 (i - 40 + 22) else if i < 60 then M3 (i - 50 + 12) else if i < 70 then M3 (i - 60 + 2) else if i < 71 then (fun _ => 0) else if i < 73 then M3 (i - 71 + 0) else if i < 78 then M4 (i - 73 + 0) else if i < 82 then M5 (i - 78 + 0) else if i < 85 then M6 (i - 82 + 0) else if i < 87 then M7 (i - 85 + 0) else M8 (i - 87 + 0)
theorem shX_eq : shX = shf 0 shX0 ++ (shf 10 shX0 ++ (shf 20 shX0 ++ (shf 30 shX0 ++ (shf 40 shX0 ++ (shf 50 shX0 ++ (shf 60 shX0 ++ ([(0, 7, [some 0, some 10, some 20, none, some 71, some 73, some 78, some 82, some 85, some 87])] ++ ([(0, 3, [some 72, none, none]), (4, 4, [some 30, some 40, some 50, some 60])] ++ (shf 73 shX4 ++ (shf 78 shX5 ++ (shf 82 shX2 ++ (shf 85 shX1 ++ (shf 87 shX6))))))))))))) := rfl
set_option maxRecDepth 100000 in
set_option maxHeartbeats 8000000 in
theorem wX7 (ids : Nat → ClassId) (h0 : Nat) (a0 : Nat → Nat) (a1 : Nat → Nat) (a2 : Nat → Nat) (a3 : Nat → Nat) (a4 : Nat → Nat) (a5 : Nat → Nat) (a6 : Nat → Nat) (a7 : Nat → Nat) (a8 : Nat → Nat) (M0 : zM) (M1 : zM) (M2 : zM) (M3 : zM) (M4 : zM) (M5 : zM) (M6 : zM) (M7 : zM) (M8 : zM) : ([(h0, .inr (7, [.ref (a0 0), .ref (a1 0), .ref (a2 0), .int 0, .ref (a3 0), .ref (a4 0), .ref (a5 0), .ref (a6 0), .ref (a7 0), .ref (a8 0)]))] ++ (zW ids a8 M8 shX6 ++ (zW ids a7 M7 shX1 ++ (zW ids a6 M6 shX2 ++ (zW ids a5 M5 shX5 ++ (zW ids a4 M4 shX4 ++ (zW ids a3 M3 shX3 ++ (zW ids a2 M2 shX0 ++ (zW ids a1 M1 shX0 ++ (zW ids a0 M0 shX0 ++ []))))))))) : va_W).Perm (zW ids (adX7 h0 a0 a1 a2 a3 a4 a5 a6 a7 a8) (mmX7 M0 M1 M2 M3 M4 M5 M6 M7 M8) shX) := by
  have fa0 : ∀ i, i < 10 → adX7 h0 a0 a1 a2 a3 a4 a5 a6 a7 a8 (0 + i) = a0 (0 + i) := fun i hi => by unfold adX7; rw [if_pos (by omega)]; congr 1
  have fm0 : ∀ i, i < 10 → mmX7 M0 M1 M2 M3 M4 M5 M6 M7 M8 (0 + i) = M0 (0 + i) := fun i hi => by unfold mmX7; rw [if_pos (by omega)]; congr 1
  have p0 : zWk ids (adX7 h0 a0 a1 a2 a3 a4 a5 a6 a7 a8) (mmX7 M0 M1 M2 M3 M4 M5 M6 M7 M8) 0 (shf 0 shX0) = zW ids a0 M0 shX0 := zWk_eq 10 rfl (fun i hi => by rw [fa0 i hi, Nat.zero_add]) (fun i hi => by rw [fm0 i hi, Nat.zero_add])
  have fa10 : ∀ i, i < 10 → adX7 h0 a0 a1 a2 a3 a4 a5 a6 a7 a8 (10 + i) = a1 (0 + i) := fun i hi => by unfold adX7; rw [if_neg (by omega), if_pos (by omega)]; congr 1; omega
  have fm10 : ∀ i, i < 10 → mmX7 M0 M1 M2 M3 M4 M5 M6 M7 M8 (10 + i) = M1 (0 + i) := fun i hi => by unfold mmX7; rw [if_neg (by omega), if_pos (by omega)]; congr 1; omega
  have p10 : zWk ids (adX7 h0 a0 a1 a2 a3 a4 a5 a6 a7 a8) (mmX7 M0 M1 M2 M3 M4 M5 M6 M7 M8) 10 (shf 10 shX0) = zW ids a1 M1 shX0 := zWk_eq 10 rfl (fun i hi => by rw [fa10 i hi, Nat.zero_add]) (fun i hi => by rw [fm10 i hi, Nat.zero_add])
  have fa20 : ∀ i, i < 10 → adX7 h0 a0 a1 a2 a3 a4 a5 a6 a7 a8 (20 + i) = a2 (0 + i) := fun i hi => by unfold adX7; rw [if_neg (by omega), if_neg (by omega), if_pos (by omega)]; congr 1; omega
  have fm20 : ∀ i, i < 10 → mmX7 M0 M1 M2 M3 M4 M5 M6 M7 M8 (20 + i) = M2 (0 + i) := fun i hi => by unfold mmX7; rw [if_neg (by omega), if_neg (by omega), if_pos (by omega)]; congr 1; omega
  have p20 : zWk ids (adX7 h0 a0 a1 a2 a3 a4 a5 a6 a7 a8) (mmX7 M0 M1 M2 M3 M4 M5 M6 M7 M8) 20 (shf 20 shX0) = zW ids a2 M2 shX0 := zWk_eq 10 rfl (fun i hi => by rw [fa20 i hi, Nat.zero_add]) (fun i hi => by rw [fm20 i hi, Nat.zero_add])
  have fa30 : ∀ i, i < 10 → adX7 h0 a0 a1 a2 a3 a4 a5 a6 a7 a8 (30 + i) = a3 (32 + i) := fun i hi => by unfold adX7; rw [if_neg (by omega), if_neg (by omega), if_neg (by omega), if_pos (by omega)]; congr 1; omega
  have fm30 : ∀ i, i < 10 → mmX7 M0 M1 M2 M3 M4 M5 M6 M7 M8 (30 + i) = M3 (32 + i) := fun i hi => by unfold mmX7; rw [if_neg (by omega), if_neg (by omega), if_neg (by omega), if_pos (by omega)]; congr 1; omega
  have p30 : zWk ids (adX7 h0 a0 a1 a2 a3 a4 a5 a6 a7 a8) (mmX7 M0 M1 M2 M3 M4 M5 M6 M7 M8) 30 (shf 30 shX0) = zWk ids a3 M3 32 (shf 32 shX0) := (zWk_eq (c := fun i => a3 (32 + i)) (Mc := fun i => M3 (32 + i)) 10 rfl fa30 fm30).trans (zWk_eq (c := fun i => a3 (32 + i)) (Mc := fun i => M3 (32 + i)) 10 rfl (fun _ _ => rfl) (fun _ _ => rfl)).symm
  have fa40 : ∀ i, i < 10 → adX7 h0 a0 a1 a2 a3 a4 a5 a6 a7 a8 (40 + i) = a3 (22 + i) := fun i hi => by unfold adX7; rw [if_neg (by omega), if_neg (by omega), if_neg (by omega), if_neg (by omega), if_pos (by omega)]; congr 1; omega
  have fm40 : ∀ i, i < 10 → mmX7 M0 M1 M2 M3 M4 M5 M6 M7 M8 (40 + i) = M3 (22 + i) := fun i hi => by unfold mmX7; rw [if_neg (by omega), if_neg (by omega), if_neg (by omega), if_neg (by omega), if_pos (by omega)]; congr 1; omega
  have p40 : zWk ids (adX7 h0 a0 a1 a2 a3 a4 a5 a6 a7 a8) (mmX7 M0 M1 M2 M3 M4 M5 M6 M7 M8) 40 (shf 40 shX0) = zWk ids a3 M3 22 (shf 22 shX0) := (zWk_eq (c := fun i => a3 (22 + i)) (Mc := fun i => M3 (22 + i)) 10 rfl fa40 fm40).trans (zWk_eq (c := fun i => a3 (22 + i)) (Mc := fun i => M3 (22 + i)) 10 rfl (fun _ _ => rfl) (fun _ _ => rfl)).symm
  have fa50 : ∀ i, i < 10 → adX7 h0 a0 a1 a2 a3 a4 a5 a6 a7 a8 (50 + i) = a3 (12 + i) := fun i hi => by unfold adX7; rw [if_neg (by omega), if_neg (by omega), if_neg (by omega), if_neg (by omega), if_neg (by omega), if_pos (by omega)]; congr 1; omega
  have fm50 : ∀ i, i < 10 → mmX7 M0 M1 M2 M3 M4 M5 M6 M7 M8 (50 + i) = M3 (12 + i) := fun i hi => by unfold mmX7; rw [if_neg (by omega), if_neg (by omega), if_neg (by omega), if_neg (by omega), if_neg (by omega), if_pos (by omega)]; congr 1; omega
  have p50 : zWk ids (adX7 h0 a0 a1 a2 a3 a4 a5 a6 a7 a8) (mmX7 M0 M1 M2 M3 M4 M5 M6 M7 M8) 50 (shf 50 shX0) = zWk ids a3 M3 12 (shf 12 shX0) := (zWk_eq (c := fun i => a3 (12 + i)) (Mc := fun i => M3 (12 + i)) 10 rfl fa50 fm50).trans (zWk_eq (c := fun i => a3 (12 + i)) (Mc := fun i => M3 (12 + i)) 10 rfl (fun _ _ => rfl) (fun _ _ => rfl)).symm
  have fa60 : ∀ i, i < 10 → adX7 h0 a0 a1 a2 a3 a4 a5 a6 a7 a8 (60 + i) = a3 (2 + i) := fun i hi => by unfold adX7; rw [if_neg (by omega), if_neg (by omega), if_neg (by omega), if_neg (by omega), if_neg (by omega), if_neg (by omega), if_pos (by omega)]; congr 1; omega
  have fm60 : ∀ i, i < 10 → mmX7 M0 M1 M2 M3 M4 M5 M6 M7 M8 (60 + i) = M3 (2 + i) := fun i hi => by unfold mmX7; rw [if_neg (by omega), if_neg (by omega), if_neg (by omega), if_neg (by omega), if_neg (by omega), if_neg (by omega), if_pos (by omega)]; congr 1; omega
  have p60 : zWk ids (adX7 h0 a0 a1 a2 a3 a4 a5 a6 a7 a8) (mmX7 M0 M1 M2 M3 M4 M5 M6 M7 M8) 60 (shf 60 shX0) = zWk ids a3 M3 2 (shf 2 shX0) := (zWk_eq (c := fun i => a3 (2 + i)) (Mc := fun i => M3 (2 + i)) 10 rfl fa60 fm60).trans (zWk_eq (c := fun i => a3 (2 + i)) (Mc := fun i => M3 (2 + i)) 10 rfl (fun _ _ => rfl) (fun _ _ => rfl)).symm
  have fa73 : ∀ i, i < 5 → adX7 h0 a0 a1 a2 a3 a4 a5 a6 a7 a8 (73 + i) = a4 (0 + i) := fun i hi => by unfold adX7; rw [if_neg (by omega), if_neg (by omega), if_neg (by omega), if_neg (by omega), if_neg (by omega), if_neg (by omega), if_neg (by omega), if_neg (by omega), if_neg (by omega), if_pos (by omega)]; congr 1; omega
  have fm73 : ∀ i, i < 5 → mmX7 M0 M1 M2 M3 M4 M5 M6 M7 M8 (73 + i) = M4 (0 + i) := fun i hi => by unfold mmX7; rw [if_neg (by omega), if_neg (by omega), if_neg (by omega), if_neg (by omega), if_neg (by omega), if_neg (by omega), if_neg (by omega), if_neg (by omega), if_neg (by omega), if_pos (by omega)]; congr 1; omega
  have p73 : zWk ids (adX7 h0 a0 a1 a2 a3 a4 a5 a6 a7 a8) (mmX7 M0 M1 M2 M3 M4 M5 M6 M7 M8) 73 (shf 73 shX4) = zW ids a4 M4 shX4 := zWk_eq 5 rfl (fun i hi => by rw [fa73 i hi, Nat.zero_add]) (fun i hi => by rw [fm73 i hi, Nat.zero_add])
  have fa78 : ∀ i, i < 4 → adX7 h0 a0 a1 a2 a3 a4 a5 a6 a7 a8 (78 + i) = a5 (0 + i) := fun i hi => by unfold adX7; rw [if_neg (by omega), if_neg (by omega), if_neg (by omega), if_neg (by omega), if_neg (by omega), if_neg (by omega), if_neg (by omega), if_neg (by omega), if_neg (by omega), if_neg (by omega), if_pos (by omega)]; congr 1; omega
  have fm78 : ∀ i, i < 4 → mmX7 M0 M1 M2 M3 M4 M5 M6 M7 M8 (78 + i) = M5 (0 + i) := fun i hi => by unfold mmX7; rw [if_neg (by omega), if_neg (by omega), if_neg (by omega), if_neg (by omega), if_neg (by omega), if_neg (by omega), if_neg (by omega), if_neg (by omega), if_neg (by omega), if_neg (by omega), if_pos (by omega)]; congr 1; omega
  have p78 : zWk ids (adX7 h0 a0 a1 a2 a3 a4 a5 a6 a7 a8) (mmX7 M0 M1 M2 M3 M4 M5 M6 M7 M8) 78 (shf 78 shX5) = zW ids a5 M5 shX5 := zWk_eq 4 rfl (fun i hi => by rw [fa78 i hi, Nat.zero_add]) (fun i hi => by rw [fm78 i hi, Nat.zero_add])
  have fa82 : ∀ i, i < 3 → adX7 h0 a0 a1 a2 a3 a4 a5 a6 a7 a8 (82 + i) = a6 (0 + i) := fun i hi => by unfold adX7; rw [if_neg (by omega), if_neg (by omega), if_neg (by omega), if_neg (by omega), if_neg (by omega), if_neg (by omega), if_neg (by omega), if_neg (by omega), if_neg (by omega), if_neg (by omega), if_neg (by omega), if_pos (by omega)]; congr 1; omega
  have fm82 : ∀ i, i < 3 → mmX7 M0 M1 M2 M3 M4 M5 M6 M7 M8 (82 + i) = M6 (0 + i) := fun i hi => by unfold mmX7; rw [if_neg (by omega), if_neg (by omega), if_neg (by omega), if_neg (by omega), if_neg (by omega), if_neg (by omega), if_neg (by omega), if_neg (by omega), if_neg (by omega), if_neg (by omega), if_neg (by omega), if_pos (by omega)]; congr 1; omega
  have p82 : zWk ids (adX7 h0 a0 a1 a2 a3 a4 a5 a6 a7 a8) (mmX7 M0 M1 M2 M3 M4 M5 M6 M7 M8) 82 (shf 82 shX2) = zW ids a6 M6 shX2 := zWk_eq 3 rfl (fun i hi => by rw [fa82 i hi, Nat.zero_add]) (fun i hi => by rw [fm82 i hi, Nat.zero_add])
  have fa85 : ∀ i, i < 2 → adX7 h0 a0 a1 a2 a3 a4 a5 a6 a7 a8 (85 + i) = a7 (0 + i) := fun i hi => by unfold adX7; rw [if_neg (by omega), if_neg (by omega), if_neg (by omega), if_neg (by omega), if_neg (by omega), if_neg (by omega), if_neg (by omega), if_neg (by omega), if_neg (by omega), if_neg (by omega), if_neg (by omega), if_neg (by omega), if_pos (by omega)]; congr 1; omega
  have fm85 : ∀ i, i < 2 → mmX7 M0 M1 M2 M3 M4 M5 M6 M7 M8 (85 + i) = M7 (0 + i) := fun i hi => by unfold mmX7; rw [if_neg (by omega), if_neg (by omega), if_neg (by omega), if_neg (by omega), if_neg (by omega), if_neg (by omega), if_neg (by omega), if_neg (by omega), if_neg (by omega), if_neg (by omega), if_neg (by omega), if_neg (by omega), if_pos (by omega)]; congr 1; omega
  have p85 : zWk ids (adX7 h0 a0 a1 a2 a3 a4 a5 a6 a7 a8) (mmX7 M0 M1 M2 M3 M4 M5 M6 M7 M8) 85 (shf 85 shX1) = zW ids a7 M7 shX1 := zWk_eq 2 rfl (fun i hi => by rw [fa85 i hi, Nat.zero_add]) (fun i hi => by rw [fm85 i hi, Nat.zero_add])
  have fa87 : ∀ i, i < 1 → adX7 h0 a0 a1 a2 a3 a4 a5 a6 a7 a8 (87 + i) = a8 (0 + i) := fun i hi => by unfold adX7; rw [if_neg (by omega), if_neg (by omega), if_neg (by omega), if_neg (by omega), if_neg (by omega), if_neg (by omega), if_neg (by omega), if_neg (by omega), if_neg (by omega), if_neg (by omega), if_neg (by omega), if_neg (by omega), if_neg (by omega)]; congr 1; omega
  have fm87 : ∀ i, i < 1 → mmX7 M0 M1 M2 M3 M4 M5 M6 M7 M8 (87 + i) = M8 (0 + i) := fun i hi => by unfold mmX7; rw [if_neg (by omega), if_neg (by omega), if_neg (by omega), if_neg (by omega), if_neg (by omega), if_neg (by omega), if_neg (by omega), if_neg (by omega), if_neg (by omega), if_neg (by omega), if_neg (by omega), if_neg (by omega), if_neg (by omega)]; congr 1; omega
  have p87 : zWk ids (adX7 h0 a0 a1 a2 a3 a4 a5 a6 a7 a8) (mmX7 M0 M1 M2 M3 M4 M5 M6 M7 M8) 87 (shf 87 shX6) = zW ids a8 M8 shX6 := zWk_eq 1 rfl (fun i hi => by rw [fa87 i hi, Nat.zero_add]) (fun i hi => by rw [fm87 i hi, Nat.zero_add])
  have p70 : zWk ids (adX7 h0 a0 a1 a2 a3 a4 a5 a6 a7 a8) (mmX7 M0 M1 M2 M3 M4 M5 M6 M7 M8) 70 [(0, 7, [some 0, some 10, some 20, none, some 71, some 73, some 78, some 82, some 85, some 87])] = [(h0, .inr (7, [.ref (a0 0), .ref (a1 0), .ref (a2 0), .int 0, .ref (a3 0), .ref (a4 0), .ref (a5 0), .ref (a6 0), .ref (a7 0), .ref (a8 0)]))] := rfl
  have e : (fun j : Nat => (([some 32, some 22, some 12, some 2] : List (Option Nat)).getD j none).map a3) = (fun j : Nat => (([some 30, some 40, some 50, some 60] : List (Option Nat)).getD j none).map (adX7 h0 a0 a1 a2 a3 a4 a5 a6 a7 a8)) := by
    funext j
    rcases j with _ | _ | _ | _ | j
    · rfl
    · rfl
    · rfl
    · rfl
    · rfl
  have p71 : zWk ids (adX7 h0 a0 a1 a2 a3 a4 a5 a6 a7 a8) (mmX7 M0 M1 M2 M3 M4 M5 M6 M7 M8) 71 [(0, 3, [some 72, none, none]), (4, 4, [some 30, some 40, some 50, some 60])] = zWk ids a3 M3 0 hdX3 := by
    show ([(a3 0, .inr (3, [.ref (a3 1), .int (Int32.ofInt (M3 0 1)), .int (Int32.ofInt (M3 0 2))])), (a3 1, .inl (ids 4, 4, .inr (.inr (.inr (.inr (fun j : Nat => (([some 30, some 40, some 50, some 60] : List (Option Nat)).getD j none).map (adX7 h0 a0 a1 a2 a3 a4 a5 a6 a7 a8)))))))] : va_W) = _
    rw [← e]
    rfl
  have h3 : zW ids a3 M3 shX3 = zWk ids a3 M3 0 hdX3 ++ (zWk ids a3 M3 2 (shf 2 shX0) ++ (zWk ids a3 M3 12 (shf 12 shX0) ++ (zWk ids a3 M3 22 (shf 22 shX0) ++ zWk ids a3 M3 32 (shf 32 shX0)))) := by
    rw [← zWk_0 ids a3 M3 shX3]
    unfold shX3
    rw [zWk_app, zWk_app, zWk_app, zWk_app]
    rfl
  have hX : zW ids (adX7 h0 a0 a1 a2 a3 a4 a5 a6 a7 a8) (mmX7 M0 M1 M2 M3 M4 M5 M6 M7 M8) shX = zWk ids (adX7 h0 a0 a1 a2 a3 a4 a5 a6 a7 a8) (mmX7 M0 M1 M2 M3 M4 M5 M6 M7 M8) 0 (shf 0 shX0) ++ (zWk ids (adX7 h0 a0 a1 a2 a3 a4 a5 a6 a7 a8) (mmX7 M0 M1 M2 M3 M4 M5 M6 M7 M8) 10 (shf 10 shX0) ++ (zWk ids (adX7 h0 a0 a1 a2 a3 a4 a5 a6 a7 a8) (mmX7 M0 M1 M2 M3 M4 M5 M6 M7 M8) 20 (shf 20 shX0) ++ (zWk ids (adX7 h0 a0 a1 a2 a3 a4 a5 a6 a7 a8) (mmX7 M0 M1 M2 M3 M4 M5 M6 M7 M8) 30 (shf 30 shX0) ++ (zWk ids (adX7 h0 a0 a1 a2 a3 a4 a5 a6 a7 a8) (mmX7 M0 M1 M2 M3 M4 M5 M6 M7 M8) 40 (shf 40 shX0) ++ (zWk ids (adX7 h0 a0 a1 a2 a3 a4 a5 a6 a7 a8) (mmX7 M0 M1 M2 M3 M4 M5 M6 M7 M8) 50 (shf 50 shX0) ++ (zWk ids (adX7 h0 a0 a1 a2 a3 a4 a5 a6 a7 a8) (mmX7 M0 M1 M2 M3 M4 M5 M6 M7 M8) 60 (shf 60 shX0) ++ (zWk ids (adX7 h0 a0 a1 a2 a3 a4 a5 a6 a7 a8) (mmX7 M0 M1 M2 M3 M4 M5 M6 M7 M8) 70 ([(0, 7, [some 0, some 10, some 20, none, some 71, some 73, some 78, some 82, some 85, some 87])]) ++ (zWk ids (adX7 h0 a0 a1 a2 a3 a4 a5 a6 a7 a8) (mmX7 M0 M1 M2 M3 M4 M5 M6 M7 M8) 71 ([(0, 3, [some 72, none, none]), (4, 4, [some 30, some 40, some 50, some 60])]) ++ (zWk ids (adX7 h0 a0 a1 a2 a3 a4 a5 a6 a7 a8) (mmX7 M0 M1 M2 M3 M4 M5 M6 M7 M8) 73 (shf 73 shX4) ++ (zWk ids (adX7 h0 a0 a1 a2 a3 a4 a5 a6 a7 a8) (mmX7 M0 M1 M2 M3 M4 M5 M6 M7 M8) 78 (shf 78 shX5) ++ (zWk ids (adX7 h0 a0 a1 a2 a3 a4 a5 a6 a7 a8) (mmX7 M0 M1 M2 M3 M4 M5 M6 M7 M8) 82 (shf 82 shX2) ++ (zWk ids (adX7 h0 a0 a1 a2 a3 a4 a5 a6 a7 a8) (mmX7 M0 M1 M2 M3 M4 M5 M6 M7 M8) 85 (shf 85 shX1) ++ (zWk ids (adX7 h0 a0 a1 a2 a3 a4 a5 a6 a7 a8) (mmX7 M0 M1 M2 M3 M4 M5 M6 M7 M8) 87 (shf 87 shX6)))))))))))))) := by
    rw [← zWk_0 ids (adX7 h0 a0 a1 a2 a3 a4 a5 a6 a7 a8) (mmX7 M0 M1 M2 M3 M4 M5 M6 M7 M8) shX, shX_eq]
    rw [zWk_app]
    rw [zWk_app]
    rw [zWk_app]
    rw [zWk_app]
    rw [zWk_app]
    rw [zWk_app]
    rw [zWk_app]
    rw [zWk_app]
    rw [zWk_app]
    rw [zWk_app]
    rw [zWk_app]
    rw [zWk_app]
    rw [zWk_app]
    rfl
  rw [hX, p0, p10, p20, p30, p40, p50, p60, p70, p71, p73, p78, p82, p85, p87, h3]
  have hp := flat_perm (fun q => if q = 0 then zW ids a0 M0 shX0 else if q = 10 then zW ids a1 M1 shX0 else if q = 20 then zW ids a2 M2 shX0 else if q = 30 then zWk ids a3 M3 32 (shf 32 shX0) else if q = 40 then zWk ids a3 M3 22 (shf 22 shX0) else if q = 50 then zWk ids a3 M3 12 (shf 12 shX0) else if q = 60 then zWk ids a3 M3 2 (shf 2 shX0) else if q = 70 then [(h0, .inr (7, [.ref (a0 0), .ref (a1 0), .ref (a2 0), .int 0, .ref (a3 0), .ref (a4 0), .ref (a5 0), .ref (a6 0), .ref (a7 0), .ref (a8 0)]))] else if q = 71 then zWk ids a3 M3 0 hdX3 else if q = 73 then zW ids a4 M4 shX4 else if q = 78 then zW ids a5 M5 shX5 else if q = 82 then zW ids a6 M6 shX2 else if q = 85 then zW ids a7 M7 shX1 else if q = 87 then zW ids a8 M8 shX6 else [] : Nat → va_W) (show ([70, 87, 85, 82, 78, 73, 71, 60, 50, 40, 30, 20, 10, 0] : List Nat).Perm [0, 10, 20, 30, 40, 50, 60, 70, 71, 73, 78, 82, 85, 87] by decide)
  have e1 : ([70, 87, 85, 82, 78, 73, 71, 60, 50, 40, 30, 20, 10, 0] : List Nat).flatMap (fun q => if q = 0 then zW ids a0 M0 shX0 else if q = 10 then zW ids a1 M1 shX0 else if q = 20 then zW ids a2 M2 shX0 else if q = 30 then zWk ids a3 M3 32 (shf 32 shX0) else if q = 40 then zWk ids a3 M3 22 (shf 22 shX0) else if q = 50 then zWk ids a3 M3 12 (shf 12 shX0) else if q = 60 then zWk ids a3 M3 2 (shf 2 shX0) else if q = 70 then [(h0, .inr (7, [.ref (a0 0), .ref (a1 0), .ref (a2 0), .int 0, .ref (a3 0), .ref (a4 0), .ref (a5 0), .ref (a6 0), .ref (a7 0), .ref (a8 0)]))] else if q = 71 then zWk ids a3 M3 0 hdX3 else if q = 73 then zW ids a4 M4 shX4 else if q = 78 then zW ids a5 M5 shX5 else if q = 82 then zW ids a6 M6 shX2 else if q = 85 then zW ids a7 M7 shX1 else if q = 87 then zW ids a8 M8 shX6 else [] : Nat → va_W) = [(h0, .inr (7, [.ref (a0 0), .ref (a1 0), .ref (a2 0), .int 0, .ref (a3 0), .ref (a4 0), .ref (a5 0), .ref (a6 0), .ref (a7 0), .ref (a8 0)]))] ++ (zW ids a8 M8 shX6 ++ (zW ids a7 M7 shX1 ++ (zW ids a6 M6 shX2 ++ (zW ids a5 M5 shX5 ++ (zW ids a4 M4 shX4 ++ (zWk ids a3 M3 0 hdX3 ++ (zWk ids a3 M3 2 (shf 2 shX0) ++ (zWk ids a3 M3 12 (shf 12 shX0) ++ (zWk ids a3 M3 22 (shf 22 shX0) ++ (zWk ids a3 M3 32 (shf 32 shX0) ++ (zW ids a2 M2 shX0 ++ (zW ids a1 M1 shX0 ++ (zW ids a0 M0 shX0 ++ []))))))))))))) := rfl
  have e2 : ([0, 10, 20, 30, 40, 50, 60, 70, 71, 73, 78, 82, 85, 87] : List Nat).flatMap (fun q => if q = 0 then zW ids a0 M0 shX0 else if q = 10 then zW ids a1 M1 shX0 else if q = 20 then zW ids a2 M2 shX0 else if q = 30 then zWk ids a3 M3 32 (shf 32 shX0) else if q = 40 then zWk ids a3 M3 22 (shf 22 shX0) else if q = 50 then zWk ids a3 M3 12 (shf 12 shX0) else if q = 60 then zWk ids a3 M3 2 (shf 2 shX0) else if q = 70 then [(h0, .inr (7, [.ref (a0 0), .ref (a1 0), .ref (a2 0), .int 0, .ref (a3 0), .ref (a4 0), .ref (a5 0), .ref (a6 0), .ref (a7 0), .ref (a8 0)]))] else if q = 71 then zWk ids a3 M3 0 hdX3 else if q = 73 then zW ids a4 M4 shX4 else if q = 78 then zW ids a5 M5 shX5 else if q = 82 then zW ids a6 M6 shX2 else if q = 85 then zW ids a7 M7 shX1 else if q = 87 then zW ids a8 M8 shX6 else [] : Nat → va_W) = zW ids a0 M0 shX0 ++ (zW ids a1 M1 shX0 ++ (zW ids a2 M2 shX0 ++ (zWk ids a3 M3 32 (shf 32 shX0) ++ (zWk ids a3 M3 22 (shf 22 shX0) ++ (zWk ids a3 M3 12 (shf 12 shX0) ++ (zWk ids a3 M3 2 (shf 2 shX0) ++ ([(h0, .inr (7, [.ref (a0 0), .ref (a1 0), .ref (a2 0), .int 0, .ref (a3 0), .ref (a4 0), .ref (a5 0), .ref (a6 0), .ref (a7 0), .ref (a8 0)]))] ++ (zWk ids a3 M3 0 hdX3 ++ (zW ids a4 M4 shX4 ++ (zW ids a5 M5 shX5 ++ (zW ids a6 M6 shX2 ++ (zW ids a7 M7 shX1 ++ (zW ids a8 M8 shX6 ++ []))))))))))))) := rfl
  rw [e1, e2] at hp
  simp only [List.append_assoc, List.append_nil, List.nil_append] at hp ⊢
  exact hp
def poX7 : zM → Prop := fun M => (∃ M0 : zM, poX0 M0 ∧ ∀ i, i < 10 → M i = M0 i) ∧ M 70 3 = 0 ∧ M 71 1 = 0 ∧ M 71 2 = 0 ∧ M 73 1 = 0
theorem mX7_rm {M0 : zM} {M1 : zM} {M2 : zM} {M3 : zM} {M4 : zM} {M5 : zM} {M6 : zM} {M7 : zM} {M8 : zM} (h0 : zRM M0) (h1 : zRM M1) (h2 : zRM M2) (h3 : zRM M3) (h4 : zRM M4) (h5 : zRM M5) (h6 : zRM M6) (h7 : zRM M7) (h8 : zRM M8) : zRM (mmX7 M0 M1 M2 M3 M4 M5 M6 M7 M8) := by
  intro i k
  unfold mmX7
  by_cases c0 : i < 10
  · rw [if_pos c0]; exact h0 _ _
  rw [if_neg c0]
  by_cases c1 : i < 20
  · rw [if_pos c1]; exact h1 _ _
  rw [if_neg c1]
  by_cases c2 : i < 30
  · rw [if_pos c2]; exact h2 _ _
  rw [if_neg c2]
  by_cases c3 : i < 40
  · rw [if_pos c3]; exact h3 _ _
  rw [if_neg c3]
  by_cases c4 : i < 50
  · rw [if_pos c4]; exact h3 _ _
  rw [if_neg c4]
  by_cases c5 : i < 60
  · rw [if_pos c5]; exact h3 _ _
  rw [if_neg c5]
  by_cases c6 : i < 70
  · rw [if_pos c6]; exact h3 _ _
  rw [if_neg c6]
  by_cases c7 : i < 71
  · rw [if_pos c7]; exact (show i32 0 by decide)
  rw [if_neg c7]
  by_cases c8 : i < 73
  · rw [if_pos c8]; exact h3 _ _
  rw [if_neg c8]
  by_cases c9 : i < 78
  · rw [if_pos c9]; exact h4 _ _
  rw [if_neg c9]
  by_cases c10 : i < 82
  · rw [if_pos c10]; exact h5 _ _
  rw [if_neg c10]
  by_cases c11 : i < 85
  · rw [if_pos c11]; exact h6 _ _
  rw [if_neg c11]
  by_cases c12 : i < 87
  · rw [if_pos c12]; exact h7 _ _
  rw [if_neg c12]
  exact h8 _ _
