/-! printed by gen/inits3.py: the constructor of History -/
theorem tn_2 : (Jvm.Cond.initialized "BarStrips$Chart") ∈ lw_g := lw_g_in (lw_t_in (List.mem_of_getElem? (i := 2) (by decide +kernel))) rfl
theorem tn_4 : (Jvm.Cond.initialized "BarStrips$History") ∈ lw_g := lw_g_in (lw_t_in (List.mem_of_getElem? (i := 4) (by decide +kernel))) rfl
theorem tn_5 : (Jvm.Cond.initialized "BarStrips$PartsText") ∈ lw_g := lw_g_in (lw_t_in (List.mem_of_getElem? (i := 5) (by decide +kernel))) rfl
theorem tn_6 : (Jvm.Cond.initialized "BarStrips$Pushes") ∈ lw_g := lw_g_in (lw_t_in (List.mem_of_getElem? (i := 6) (by decide +kernel))) rfl
theorem tn_7 : (Jvm.Cond.initialized "BarStrips$Drawing") ∈ lw_g := lw_g_in (lw_t_in (List.mem_of_getElem? (i := 7) (by decide +kernel))) rfl
theorem tn_8 : (Jvm.Cond.initialized "BarStrips$Cutting") ∈ lw_g := lw_g_in (lw_t_in (List.mem_of_getElem? (i := 8) (by decide +kernel))) rfl
theorem tn_9 : (Jvm.Cond.initialized "BarStrips$SwapSearch") ∈ lw_g := lw_g_in (lw_t_in (List.mem_of_getElem? (i := 9) (by decide +kernel))) rfl
theorem tn_17 : (Jvm.Cond.methodLink "BarStrips" (1 : Nat) ({ cls := "java/lang/Object", name := "<init>", desc := "()V" } : Jvm.MethodName)) ∈ lw_g := lw_g_in (lw_t_in (List.mem_of_getElem? (i := 17) (by decide +kernel))) rfl
theorem tn_20 : (Jvm.Cond.classLink "BarStrips" (7 : Nat) "BarStrips$Chart") ∈ lw_g := lw_g_in (lw_t_in (List.mem_of_getElem? (i := 20) (by decide +kernel))) rfl
theorem tn_21 : (Jvm.Cond.instantiable "BarStrips$Chart" (14 : Nat)) ∈ lw_g := lw_g_in (lw_t_in (List.mem_of_getElem? (i := 21) (by decide +kernel))) rfl
theorem tn_22 : (Jvm.Cond.methodLink "BarStrips" (9 : Nat) ({ cls := "BarStrips$Chart", name := "<init>", desc := "()V" } : Jvm.MethodName)) ∈ lw_g := lw_g_in (lw_t_in (List.mem_of_getElem? (i := 22) (by decide +kernel))) rfl
theorem tn_23 : (Jvm.Cond.instanceMethod ({ cls := "BarStrips$Chart", name := "<init>", desc := "()V" } : Jvm.MethodName)) ∈ lw_g := lw_g_in (lw_t_in (List.mem_of_getElem? (i := 23) (by decide +kernel))) rfl
theorem tn_24 : (Jvm.Cond.code ({ cls := "BarStrips$Chart", name := "<init>", desc := "()V" } : Jvm.MethodName) prog_2_method_1_code (1 : Nat) (Option.none : Option Jvm.ClassFile.FieldType)) ∈ lw_g := lw_g_in (lw_t_in (List.mem_of_getElem? (i := 24) (by decide +kernel))) rfl
theorem tn_101 : (Jvm.Cond.classLink "BarStrips" (22 : Nat) "BarStrips$History") ∈ lw_g := lw_g_in (lw_t_in (List.mem_of_getElem? (i := 101) (by decide +kernel))) rfl
theorem tn_102 : (Jvm.Cond.instantiable "BarStrips$History" (3 : Nat)) ∈ lw_g := lw_g_in (lw_t_in (List.mem_of_getElem? (i := 102) (by decide +kernel))) rfl
theorem tn_103 : (Jvm.Cond.methodLink "BarStrips" (24 : Nat) ({ cls := "BarStrips$History", name := "<init>", desc := "()V" } : Jvm.MethodName)) ∈ lw_g := lw_g_in (lw_t_in (List.mem_of_getElem? (i := 103) (by decide +kernel))) rfl
theorem tn_104 : (Jvm.Cond.instanceMethod ({ cls := "BarStrips$History", name := "<init>", desc := "()V" } : Jvm.MethodName)) ∈ lw_g := lw_g_in (lw_t_in (List.mem_of_getElem? (i := 104) (by decide +kernel))) rfl
theorem tn_105 : (Jvm.Cond.code ({ cls := "BarStrips$History", name := "<init>", desc := "()V" } : Jvm.MethodName) prog_5_method_1_code (2 : Nat) (Option.none : Option Jvm.ClassFile.FieldType)) ∈ lw_g := lw_g_in (lw_t_in (List.mem_of_getElem? (i := 105) (by decide +kernel))) rfl
theorem tn_106 : (Jvm.Cond.methodLink "BarStrips$History" (3 : Nat) ({ cls := "java/lang/Object", name := "<init>", desc := "()V" } : Jvm.MethodName)) ∈ lw_g := lw_g_in (lw_t_in (List.mem_of_getElem? (i := 106) (by decide +kernel))) rfl
theorem tn_107 : (Jvm.Cond.classLink "BarStrips$History" (9 : Nat) "BarStrips$Chart") ∈ lw_g := lw_g_in (lw_t_in (List.mem_of_getElem? (i := 107) (by decide +kernel))) rfl
theorem tn_109 : (Jvm.Cond.methodLink "BarStrips$History" (17 : Nat) ({ cls := "BarStrips$Chart", name := "<init>", desc := "()V" } : Jvm.MethodName)) ∈ lw_g := lw_g_in (lw_t_in (List.mem_of_getElem? (i := 109) (by decide +kernel))) rfl
theorem tn_121 : (Jvm.Cond.classLink "BarStrips" (29 : Nat) "BarStrips$PartsText") ∈ lw_g := lw_g_in (lw_t_in (List.mem_of_getElem? (i := 121) (by decide +kernel))) rfl
theorem tn_122 : (Jvm.Cond.instantiable "BarStrips$PartsText" (9 : Nat)) ∈ lw_g := lw_g_in (lw_t_in (List.mem_of_getElem? (i := 122) (by decide +kernel))) rfl
theorem tn_124 : (Jvm.Cond.instanceMethod ({ cls := "BarStrips$PartsText", name := "<init>", desc := "()V" } : Jvm.MethodName)) ∈ lw_g := lw_g_in (lw_t_in (List.mem_of_getElem? (i := 124) (by decide +kernel))) rfl
theorem tn_125 : (Jvm.Cond.code ({ cls := "BarStrips$PartsText", name := "<init>", desc := "()V" } : Jvm.MethodName) prog_6_method_1_code (1 : Nat) (Option.none : Option Jvm.ClassFile.FieldType)) ∈ lw_g := lw_g_in (lw_t_in (List.mem_of_getElem? (i := 125) (by decide +kernel))) rfl
theorem tn_152 : (Jvm.Cond.classLink "BarStrips" (36 : Nat) "BarStrips$Pushes") ∈ lw_g := lw_g_in (lw_t_in (List.mem_of_getElem? (i := 152) (by decide +kernel))) rfl
theorem tn_153 : (Jvm.Cond.instantiable "BarStrips$Pushes" (3 : Nat)) ∈ lw_g := lw_g_in (lw_t_in (List.mem_of_getElem? (i := 153) (by decide +kernel))) rfl
theorem tn_155 : (Jvm.Cond.instanceMethod ({ cls := "BarStrips$Pushes", name := "<init>", desc := "()V" } : Jvm.MethodName)) ∈ lw_g := lw_g_in (lw_t_in (List.mem_of_getElem? (i := 155) (by decide +kernel))) rfl
theorem tn_156 : (Jvm.Cond.code ({ cls := "BarStrips$Pushes", name := "<init>", desc := "()V" } : Jvm.MethodName) prog_7_method_1_code (1 : Nat) (Option.none : Option Jvm.ClassFile.FieldType)) ∈ lw_g := lw_g_in (lw_t_in (List.mem_of_getElem? (i := 156) (by decide +kernel))) rfl
theorem tn_170 : (Jvm.Cond.classLink "BarStrips" (43 : Nat) "BarStrips$Drawing") ∈ lw_g := lw_g_in (lw_t_in (List.mem_of_getElem? (i := 170) (by decide +kernel))) rfl
theorem tn_171 : (Jvm.Cond.instantiable "BarStrips$Drawing" (3 : Nat)) ∈ lw_g := lw_g_in (lw_t_in (List.mem_of_getElem? (i := 171) (by decide +kernel))) rfl
theorem tn_173 : (Jvm.Cond.instanceMethod ({ cls := "BarStrips$Drawing", name := "<init>", desc := "()V" } : Jvm.MethodName)) ∈ lw_g := lw_g_in (lw_t_in (List.mem_of_getElem? (i := 173) (by decide +kernel))) rfl
theorem tn_174 : (Jvm.Cond.code ({ cls := "BarStrips$Drawing", name := "<init>", desc := "()V" } : Jvm.MethodName) prog_4_method_1_code (1 : Nat) (Option.none : Option Jvm.ClassFile.FieldType)) ∈ lw_g := lw_g_in (lw_t_in (List.mem_of_getElem? (i := 174) (by decide +kernel))) rfl
theorem tn_189 : (Jvm.Cond.classLink "BarStrips" (50 : Nat) "BarStrips$Cutting") ∈ lw_g := lw_g_in (lw_t_in (List.mem_of_getElem? (i := 189) (by decide +kernel))) rfl
theorem tn_190 : (Jvm.Cond.instantiable "BarStrips$Cutting" (2 : Nat)) ∈ lw_g := lw_g_in (lw_t_in (List.mem_of_getElem? (i := 190) (by decide +kernel))) rfl
theorem tn_192 : (Jvm.Cond.instanceMethod ({ cls := "BarStrips$Cutting", name := "<init>", desc := "()V" } : Jvm.MethodName)) ∈ lw_g := lw_g_in (lw_t_in (List.mem_of_getElem? (i := 192) (by decide +kernel))) rfl
theorem tn_193 : (Jvm.Cond.code ({ cls := "BarStrips$Cutting", name := "<init>", desc := "()V" } : Jvm.MethodName) prog_3_method_1_code (1 : Nat) (Option.none : Option Jvm.ClassFile.FieldType)) ∈ lw_g := lw_g_in (lw_t_in (List.mem_of_getElem? (i := 193) (by decide +kernel))) rfl
theorem tn_204 : (Jvm.Cond.classLink "BarStrips" (57 : Nat) "BarStrips$SwapSearch") ∈ lw_g := lw_g_in (lw_t_in (List.mem_of_getElem? (i := 204) (by decide +kernel))) rfl
theorem tn_205 : (Jvm.Cond.instantiable "BarStrips$SwapSearch" (4 : Nat)) ∈ lw_g := lw_g_in (lw_t_in (List.mem_of_getElem? (i := 205) (by decide +kernel))) rfl
theorem tn_207 : (Jvm.Cond.instanceMethod ({ cls := "BarStrips$SwapSearch", name := "<init>", desc := "()V" } : Jvm.MethodName)) ∈ lw_g := lw_g_in (lw_t_in (List.mem_of_getElem? (i := 207) (by decide +kernel))) rfl
theorem tn_208 : (Jvm.Cond.code ({ cls := "BarStrips$SwapSearch", name := "<init>", desc := "()V" } : Jvm.MethodName) prog_8_method_1_code (1 : Nat) (Option.none : Option Jvm.ClassFile.FieldType)) ∈ lw_g := lw_g_in (lw_t_in (List.mem_of_getElem? (i := 208) (by decide +kernel))) rfl
theorem nk_X3_9 : zNk RX3 9 RX0 TX0 14 0 fsX0 := ⟨tn_107, tn_21, tn_2, inX0, rfl, tyX0, tyX0_ok, fun j hj => by rcases (show j = 0 ∨ j = 1 ∨ j = 2 ∨ j = 3 ∨ j = 4 ∨ j = 5 ∨ j = 6 ∨ j = 7 ∨ j = 8 ∨ j = 9 ∨ j = 10 ∨ j = 11 ∨ j = 12 ∨ j = 13 by omega) with rfl | rfl | rfl | rfl | rfl | rfl | rfl | rfl | rfl | rfl | rfl | rfl | rfl | rfl <;> rfl⟩
theorem zc_X3_17 : zCb RX3 17 yX0_init cX0_init 1 none 0 := ⟨tn_109, tn_2, tn_24, by decide +kernel⟩
def fsX3 : List Value := [.null, .int 0, .int 0]
def hdX3 : zS := [(0, 3, [some 1, none, none]), (4, 4, [some 32, some 22, some 12, some 2])]
def shX3 : zS := hdX3 ++ (shf 2 shX0 ++ (shf 12 shX0 ++ (shf 22 shX0 ++ shf 32 shX0)))
def poX3 : zM → Prop := fun M => M 0 1 = 0 ∧ M 0 2 = 0
def adX3 (h0 q1 : Nat) (a0 a1 a2 a3 : Nat → Nat) : Nat → Nat := fun i => if i = 0 then h0 else if i = 1 then q1 else if i < 12 then a3 (i - 2) else if i < 22 then a2 (i - 12) else if i < 32 then a1 (i - 22) else a0 (i - 32)
def mmX3 (M0 M1 M2 M3 : zM) : zM := fun i => if i < 2 then fun _ => 0 else if i < 12 then M3 (i - 2) else if i < 22 then M2 (i - 12) else if i < 32 then M1 (i - 22) else M0 (i - 32)
theorem wX3 (ids : Nat → ClassId) (h0 q1 : Nat) (a0 a1 a2 a3 : Nat → Nat) (M0 M1 M2 M3 : zM) : ([(h0, .inr (3, [.ref q1, .int 0, .int 0])), (q1, .inl (ids 4, 4, .inr (.inr (.inr (.inr (va_up (va_up (va_up (va_up (fun _ => none) 0 (some (a0 0))) 1 (some (a1 0))) 2 (some (a2 0))) 3 (some (a3 0))))))))] ++ (zW ids a3 M3 shX0 ++ (zW ids a2 M2 shX0 ++ (zW ids a1 M1 shX0 ++ (zW ids a0 M0 shX0 ++ [])))) : va_W) = zW ids (adX3 h0 q1 a0 a1 a2 a3) (mmX3 M0 M1 M2 M3) shX3 := by
  rw [← zWk_0 ids (adX3 h0 q1 a0 a1 a2 a3) (mmX3 M0 M1 M2 M3) shX3]
  unfold shX3
  rw [zWk_app, zWk_app, zWk_app, zWk_app, List.append_nil]
  have l0 : 0 + hdX3.length = 2 := rfl
  have l1 : 2 + (shf 2 shX0).length = 12 := rfl
  have l2 : 12 + (shf 12 shX0).length = 22 := rfl
  have l3 : 22 + (shf 22 shX0).length = 32 := rfl
  rw [l0, l1, l2, l3]
  have p3 : zWk ids (adX3 h0 q1 a0 a1 a2 a3) (mmX3 M0 M1 M2 M3) 2 (shf 2 shX0) = zW ids a3 M3 shX0 := zWk_eq 10 rfl (fun i hi => by unfold adX3; rw [if_neg (by omega), if_neg (by omega), if_pos (by omega)]; congr 1; omega) (fun i hi => by unfold mmX3; rw [if_neg (by omega), if_pos (by omega)]; congr 1; omega)
  have p2 : zWk ids (adX3 h0 q1 a0 a1 a2 a3) (mmX3 M0 M1 M2 M3) 12 (shf 12 shX0) = zW ids a2 M2 shX0 := zWk_eq 10 rfl (fun i hi => by unfold adX3; rw [if_neg (by omega), if_neg (by omega), if_neg (by omega), if_pos (by omega)]; congr 1; omega) (fun i hi => by unfold mmX3; rw [if_neg (by omega), if_neg (by omega), if_pos (by omega)]; congr 1; omega)
  have p1 : zWk ids (adX3 h0 q1 a0 a1 a2 a3) (mmX3 M0 M1 M2 M3) 22 (shf 22 shX0) = zW ids a1 M1 shX0 := zWk_eq 10 rfl (fun i hi => by unfold adX3; rw [if_neg (by omega), if_neg (by omega), if_neg (by omega), if_neg (by omega), if_pos (by omega)]; congr 1; omega) (fun i hi => by unfold mmX3; rw [if_neg (by omega), if_neg (by omega), if_neg (by omega), if_pos (by omega)]; congr 1; omega)
  have p0 : zWk ids (adX3 h0 q1 a0 a1 a2 a3) (mmX3 M0 M1 M2 M3) 32 (shf 32 shX0) = zW ids a0 M0 shX0 := zWk_eq 10 rfl (fun i hi => by unfold adX3; rw [if_neg (by omega), if_neg (by omega), if_neg (by omega), if_neg (by omega), if_neg (by omega)]; congr 1; omega) (fun i hi => by unfold mmX3; rw [if_neg (by omega), if_neg (by omega), if_neg (by omega), if_neg (by omega)]; congr 1; omega)
  rw [p0, p1, p2, p3]
  congr 1
  have e : (va_up (va_up (va_up (va_up (fun _ => none) 0 (some (a0 0))) 1 (some (a1 0))) 2 (some (a2 0))) 3 (some (a3 0))) = (fun j : Nat => (([some 32, some 22, some 12, some 2] : List (Option Nat)).getD j none).map (adX3 h0 q1 a0 a1 a2 a3)) := by
    funext j
    rcases j with _ | _ | _ | _ | j
    · rfl
    · rfl
    · rfl
    · rfl
    · rfl
  rw [e]
  rfl
theorem mX3_rm {M0 M1 M2 M3 : zM} (h0 : zRM M0) (h1 : zRM M1) (h2 : zRM M2) (h3 : zRM M3) : zRM (mmX3 M0 M1 M2 M3) := by
  intro i k
  unfold mmX3
  split
  · show i32 0; decide
  · split
    · exact h3 _ _
    · split
      · exact h2 _ _
      · split
        · exact h1 _ _
        · exact h0 _ _
set_option maxRecDepth 100000 in
set_option maxHeartbeats 4000000 in
theorem ini_X3 (l : Launch) : zIni l yX3_init cX3_init 2 2 41 1828 43 3 fsX3 0 shX3 poX3 := by
  refine zb_enter (by decide) rfl (by decide) (fun X h0 C hI E => ?_)
  refine zb_aload_n (i := 0) C dX3_init_0 rfl rfl ?_
  refine zb_objInit C tn_106 tn_18 tn_19 rfl (by decide) (by decide) dX3_init_1 ?_
  refine zb_aload_n (i := 0) C dX3_init_4 rfl rfl ?_
  refine zb_iconst (x := 4) C dX3_init_5 (by decide) (by decide) ?_
  refine zb_newq (N' := 4) C tn_107 (by decide) rfl (Nat.le_of_ble_eq_true rfl) (Nat.le_of_ble_eq_true rfl) dX3_init_6 (fun q1 => ?_)
  show zB X ((h0, .inr (3, [.null, .int 0, .int 0])) :: [(q1, .inl (zYi X 4, 4, .inr (.inr (.inr (.inr (fun _ => none))))))]) 1 4 9 _ _
  refine zb_putF (fs' := [.ref q1, .int 0, .int 0]) C hI fk_X3_11 (fun _ _ _ h => by cases h; rfl) rfl rfl (Nat.le_of_ble_eq_true rfl) rfl dX3_init_9 ?_
  refine zb_iconst (x := 0) C dX3_init_12 (by decide) (by decide) ?_
  refine zb_istore_n (i := 1) (lv' := [some (zr h0), some (zi 0)]) C dX3_init_13 rfl (Nat.le_of_ble_eq_true rfl) rfl ?_
  show zB X ([(h0, .inr (3, [.ref q1, .int 0, .int 0])), (q1, .inl (zYi X 4, 4, .inr (.inr (.inr (.inr (fun _ => none))))))] ++ []) 1 4 14 [some (zr h0), some (zi 0)] []
  refine zb_iload_n (i := 1) C dX3_init_14 rfl rfl ?_
  refine zb_iconst (x := 4) C dX3_init_15 (by decide) (by decide) ?_
  refine zb_icmp_ge (tgt := 38) C dX3_init_16 rfl (fun h => absurd h (by decide)) (fun _ => ?_)
  refine zb_aload_n (i := 0) C dX3_init_19 rfl rfl ?_
  refine zb_getr (b := q1) C 0 rfl fk_X3_11 rfl dX3_init_20 ?_
  refine zb_iload_n (i := 1) C dX3_init_23 rfl rfl ?_
  refine zb_newI (root := 0) C nk_X3_9 (ini_X0 l) zc_X3_17 tn_23 rfl (by decide) (by decide) (Nat.le_of_ble_eq_true rfl) (Nat.le_of_ble_eq_true rfl) rfl (Nat.le_of_ble_eq_true rfl) dX3_init_24 dX3_init_27 dX3_init_28 (fun a0 M0 hM0 hp0 => ?_)
  refine zb_widen (k := 11) (n := 460) (Nat.le_of_ble_eq_true rfl) (Nat.le_of_ble_eq_true rfl) ?_
  refine zb_astq (ci := 0) (T := TX0) (N := 14) (g := (fun _ => none)) (g' := (va_up (fun _ => none) 0 (some (a0 0)))) (ws' := [(h0, .inr (3, [.ref q1, .int 0, .int 0])), (q1, .inl (zYi X 4, 4, .inr (.inr (.inr (.inr (va_up (fun _ => none) 0 (some (a0 0))))))))] ++ (zW (zYi X) a0 M0 shX0 ++ [])) C 1 2 rfl rfl rfl (by decide) (by decide) rfl rfl dX3_init_31 ?_
  refine zb_iinc (y := 1) (lv' := [some (zr h0), some (zi 1)]) C dX3_init_32 rfl rfl (by decide) rfl ?_
  refine zb_goto (tgt := 14) C dX3_init_35 rfl ?_
  show zB X ([(h0, .inr (3, [.ref q1, .int 0, .int 0])), (q1, .inl (zYi X 4, 4, .inr (.inr (.inr (.inr (va_up (fun _ => none) 0 (some (a0 0))))))))] ++ (zW (zYi X) a0 M0 shX0 ++ [])) 11 460 14 [some (zr h0), some (zi 1)] []
  refine zb_iload_n (i := 1) C dX3_init_14 rfl rfl ?_
  refine zb_iconst (x := 4) C dX3_init_15 (by decide) (by decide) ?_
  refine zb_icmp_ge (tgt := 38) C dX3_init_16 rfl (fun h => absurd h (by decide)) (fun _ => ?_)
  refine zb_aload_n (i := 0) C dX3_init_19 rfl rfl ?_
  refine zb_getr (b := q1) C 0 rfl fk_X3_11 rfl dX3_init_20 ?_
  refine zb_iload_n (i := 1) C dX3_init_23 rfl rfl ?_
  refine zb_newI (root := 0) C nk_X3_9 (ini_X0 l) zc_X3_17 tn_23 rfl (by decide) (by decide) (Nat.le_of_ble_eq_true rfl) (Nat.le_of_ble_eq_true rfl) rfl (Nat.le_of_ble_eq_true rfl) dX3_init_24 dX3_init_27 dX3_init_28 (fun a1 M1 hM1 hp1 => ?_)
  refine zb_widen (k := 21) (n := 916) (Nat.le_of_ble_eq_true rfl) (Nat.le_of_ble_eq_true rfl) ?_
  refine zb_astq (ci := 0) (T := TX0) (N := 14) (g := (va_up (fun _ => none) 0 (some (a0 0)))) (g' := (va_up (va_up (fun _ => none) 0 (some (a0 0))) 1 (some (a1 0)))) (ws' := [(h0, .inr (3, [.ref q1, .int 0, .int 0])), (q1, .inl (zYi X 4, 4, .inr (.inr (.inr (.inr (va_up (va_up (fun _ => none) 0 (some (a0 0))) 1 (some (a1 0))))))))] ++ (zW (zYi X) a1 M1 shX0 ++ (zW (zYi X) a0 M0 shX0 ++ []))) C 1 2 rfl rfl rfl (by decide) (by decide) rfl rfl dX3_init_31 ?_
  refine zb_iinc (y := 2) (lv' := [some (zr h0), some (zi 2)]) C dX3_init_32 rfl rfl (by decide) rfl ?_
  refine zb_goto (tgt := 14) C dX3_init_35 rfl ?_
  show zB X ([(h0, .inr (3, [.ref q1, .int 0, .int 0])), (q1, .inl (zYi X 4, 4, .inr (.inr (.inr (.inr (va_up (va_up (fun _ => none) 0 (some (a0 0))) 1 (some (a1 0))))))))] ++ (zW (zYi X) a1 M1 shX0 ++ (zW (zYi X) a0 M0 shX0 ++ []))) 21 916 14 [some (zr h0), some (zi 2)] []
  refine zb_iload_n (i := 1) C dX3_init_14 rfl rfl ?_
  refine zb_iconst (x := 4) C dX3_init_15 (by decide) (by decide) ?_
  refine zb_icmp_ge (tgt := 38) C dX3_init_16 rfl (fun h => absurd h (by decide)) (fun _ => ?_)
  refine zb_aload_n (i := 0) C dX3_init_19 rfl rfl ?_
  refine zb_getr (b := q1) C 0 rfl fk_X3_11 rfl dX3_init_20 ?_
  refine zb_iload_n (i := 1) C dX3_init_23 rfl rfl ?_
  refine zb_newI (root := 0) C nk_X3_9 (ini_X0 l) zc_X3_17 tn_23 rfl (by decide) (by decide) (Nat.le_of_ble_eq_true rfl) (Nat.le_of_ble_eq_true rfl) rfl (Nat.le_of_ble_eq_true rfl) dX3_init_24 dX3_init_27 dX3_init_28 (fun a2 M2 hM2 hp2 => ?_)
  refine zb_widen (k := 31) (n := 1372) (Nat.le_of_ble_eq_true rfl) (Nat.le_of_ble_eq_true rfl) ?_
  refine zb_astq (ci := 0) (T := TX0) (N := 14) (g := (va_up (va_up (fun _ => none) 0 (some (a0 0))) 1 (some (a1 0)))) (g' := (va_up (va_up (va_up (fun _ => none) 0 (some (a0 0))) 1 (some (a1 0))) 2 (some (a2 0)))) (ws' := [(h0, .inr (3, [.ref q1, .int 0, .int 0])), (q1, .inl (zYi X 4, 4, .inr (.inr (.inr (.inr (va_up (va_up (va_up (fun _ => none) 0 (some (a0 0))) 1 (some (a1 0))) 2 (some (a2 0))))))))] ++ (zW (zYi X) a2 M2 shX0 ++ (zW (zYi X) a1 M1 shX0 ++ (zW (zYi X) a0 M0 shX0 ++ [])))) C 1 2 rfl rfl rfl (by decide) (by decide) rfl rfl dX3_init_31 ?_
  refine zb_iinc (y := 3) (lv' := [some (zr h0), some (zi 3)]) C dX3_init_32 rfl rfl (by decide) rfl ?_
  refine zb_goto (tgt := 14) C dX3_init_35 rfl ?_
  show zB X ([(h0, .inr (3, [.ref q1, .int 0, .int 0])), (q1, .inl (zYi X 4, 4, .inr (.inr (.inr (.inr (va_up (va_up (va_up (fun _ => none) 0 (some (a0 0))) 1 (some (a1 0))) 2 (some (a2 0))))))))] ++ (zW (zYi X) a2 M2 shX0 ++ (zW (zYi X) a1 M1 shX0 ++ (zW (zYi X) a0 M0 shX0 ++ [])))) 31 1372 14 [some (zr h0), some (zi 3)] []
  refine zb_iload_n (i := 1) C dX3_init_14 rfl rfl ?_
  refine zb_iconst (x := 4) C dX3_init_15 (by decide) (by decide) ?_
  refine zb_icmp_ge (tgt := 38) C dX3_init_16 rfl (fun h => absurd h (by decide)) (fun _ => ?_)
  refine zb_aload_n (i := 0) C dX3_init_19 rfl rfl ?_
  refine zb_getr (b := q1) C 0 rfl fk_X3_11 rfl dX3_init_20 ?_
  refine zb_iload_n (i := 1) C dX3_init_23 rfl rfl ?_
  refine zb_newI (root := 0) C nk_X3_9 (ini_X0 l) zc_X3_17 tn_23 rfl (by decide) (by decide) (Nat.le_of_ble_eq_true rfl) (Nat.le_of_ble_eq_true rfl) rfl (Nat.le_of_ble_eq_true rfl) dX3_init_24 dX3_init_27 dX3_init_28 (fun a3 M3 hM3 hp3 => ?_)
  refine zb_widen (k := 41) (n := 1828) (Nat.le_of_ble_eq_true rfl) (Nat.le_of_ble_eq_true rfl) ?_
  refine zb_astq (ci := 0) (T := TX0) (N := 14) (g := (va_up (va_up (va_up (fun _ => none) 0 (some (a0 0))) 1 (some (a1 0))) 2 (some (a2 0)))) (g' := (va_up (va_up (va_up (va_up (fun _ => none) 0 (some (a0 0))) 1 (some (a1 0))) 2 (some (a2 0))) 3 (some (a3 0)))) (ws' := [(h0, .inr (3, [.ref q1, .int 0, .int 0])), (q1, .inl (zYi X 4, 4, .inr (.inr (.inr (.inr (va_up (va_up (va_up (va_up (fun _ => none) 0 (some (a0 0))) 1 (some (a1 0))) 2 (some (a2 0))) 3 (some (a3 0))))))))] ++ (zW (zYi X) a3 M3 shX0 ++ (zW (zYi X) a2 M2 shX0 ++ (zW (zYi X) a1 M1 shX0 ++ (zW (zYi X) a0 M0 shX0 ++ []))))) C 1 2 rfl rfl rfl (by decide) (by decide) rfl rfl dX3_init_31 ?_
  refine zb_iinc (y := 4) (lv' := [some (zr h0), some (zi 4)]) C dX3_init_32 rfl rfl (by decide) rfl ?_
  refine zb_goto (tgt := 14) C dX3_init_35 rfl ?_
  refine zb_iload_n (i := 1) C dX3_init_14 rfl rfl ?_
  refine zb_iconst (x := 4) C dX3_init_15 (by decide) (by decide) ?_
  refine zb_icmp_ge (tgt := 38) C dX3_init_16 rfl (fun _ => ?_) (fun h => absurd (by decide) h)
  rw [wX3]
  exact E (adX3 h0 q1 a0 a1 a2 a3) _ _ _ _ _ rfl (mX3_rm hM0 hM1 hM2 hM3) ⟨rfl, rfl⟩ (Nat.le_of_ble_eq_true rfl) (Nat.le_of_ble_eq_true rfl) dX3_init_38
