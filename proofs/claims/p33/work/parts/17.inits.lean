/-! printed by gen/inits.py: the constructors without calls of others, and the chart's -/
theorem tn_3 : (Jvm.Cond.initialized "java/util/Arrays") ∈ lw_g := lw_g_in (lw_t_in (List.mem_of_getElem? (i := 3) (by decide +kernel))) rfl
theorem tn_18 : (Jvm.Cond.instanceMethod ({ cls := "java/lang/Object", name := "<init>", desc := "()V" } : Jvm.MethodName)) ∈ lw_g := lw_g_in (lw_t_in (List.mem_of_getElem? (i := 18) (by decide +kernel))) rfl
theorem tn_19 : (Jvm.Cond.code ({ cls := "java/lang/Object", name := "<init>", desc := "()V" } : Jvm.MethodName) object_method_1_code (1 : Nat) (Option.none : Option Jvm.ClassFile.FieldType)) ∈ lw_g := lw_g_in (lw_t_in (List.mem_of_getElem? (i := 19) (by decide +kernel))) rfl
theorem tn_25 : (Jvm.Cond.methodLink "BarStrips$Chart" (3 : Nat) ({ cls := "java/lang/Object", name := "<init>", desc := "()V" } : Jvm.MethodName)) ∈ lw_g := lw_g_in (lw_t_in (List.mem_of_getElem? (i := 25) (by decide +kernel))) rfl
theorem tn_26 : (Jvm.Cond.methodLink "BarStrips$Chart" (39 : Nat) ({ cls := "java/util/Arrays", name := "fill", desc := "([II)V" } : Jvm.MethodName)) ∈ lw_g := lw_g_in (lw_t_in (List.mem_of_getElem? (i := 26) (by decide +kernel))) rfl
theorem tn_27 : (Jvm.Cond.static ({ cls := "java/util/Arrays", name := "fill", desc := "([II)V" } : Jvm.MethodName)) ∈ lw_g := lw_g_in (lw_t_in (List.mem_of_getElem? (i := 27) (by decide +kernel))) rfl
theorem tn_28 : (Jvm.Cond.code ({ cls := "java/util/Arrays", name := "fill", desc := "([II)V" } : Jvm.MethodName) prog_13_method_103_code (4 : Nat) (Option.none : Option Jvm.ClassFile.FieldType)) ∈ lw_g := lw_g_in (lw_t_in (List.mem_of_getElem? (i := 28) (by decide +kernel))) rfl
theorem tn_100 : (Jvm.Cond.arrayClass Jvm.ClassFile.FieldType.int) ∈ lw_g := lw_g_in (lw_t_in (List.mem_of_getElem? (i := 100) (by decide +kernel))) rfl
theorem tn_126 : (Jvm.Cond.methodLink "BarStrips$PartsText" (3 : Nat) ({ cls := "java/lang/Object", name := "<init>", desc := "()V" } : Jvm.MethodName)) ∈ lw_g := lw_g_in (lw_t_in (List.mem_of_getElem? (i := 126) (by decide +kernel))) rfl
theorem tn_151 : (Jvm.Cond.arrayClass Jvm.ClassFile.FieldType.char) ∈ lw_g := lw_g_in (lw_t_in (List.mem_of_getElem? (i := 151) (by decide +kernel))) rfl
theorem tn_157 : (Jvm.Cond.methodLink "BarStrips$Pushes" (3 : Nat) ({ cls := "java/lang/Object", name := "<init>", desc := "()V" } : Jvm.MethodName)) ∈ lw_g := lw_g_in (lw_t_in (List.mem_of_getElem? (i := 157) (by decide +kernel))) rfl
theorem tn_175 : (Jvm.Cond.methodLink "BarStrips$Drawing" (3 : Nat) ({ cls := "java/lang/Object", name := "<init>", desc := "()V" } : Jvm.MethodName)) ∈ lw_g := lw_g_in (lw_t_in (List.mem_of_getElem? (i := 175) (by decide +kernel))) rfl
theorem tn_194 : (Jvm.Cond.methodLink "BarStrips$Cutting" (3 : Nat) ({ cls := "java/lang/Object", name := "<init>", desc := "()V" } : Jvm.MethodName)) ∈ lw_g := lw_g_in (lw_t_in (List.mem_of_getElem? (i := 194) (by decide +kernel))) rfl
theorem tn_209 : (Jvm.Cond.methodLink "BarStrips$SwapSearch" (3 : Nat) ({ cls := "java/lang/Object", name := "<init>", desc := "()V" } : Jvm.MethodName)) ∈ lw_g := lw_g_in (lw_t_in (List.mem_of_getElem? (i := 209) (by decide +kernel))) rfl
def shX1 : zS := [(0, 1, [none, some 1]), (1, 201, [])]
def fsX1 : List Value := [.int 0, .null]
def poX1 : zM → Prop := fun M => M = fun _ _ => 0
set_option maxRecDepth 100000 in
set_option maxHeartbeats 4000000 in
theorem ini_X1 (l : Launch) : zIni l yX1_init cX1_init 1 1 1 201 12 1 fsX1 0 shX1 poX1 := by
  refine zb_enter (by decide) rfl (by decide) (fun X h0 C hI E => ?_)
  refine zb_aload_n (i := 0) C dX1_init_0 rfl rfl ?_
  refine zb_objInit C tn_194 tn_18 tn_19 rfl (by decide) (by decide) dX1_init_1 ?_
  refine zb_aload_n (i := 0) C dX1_init_4 rfl rfl ?_
  refine zb_sipush (x := 201) C dX1_init_5 (by decide) (by decide) ?_
  refine zb_newa (atype := .int) (ty := .int) (t0 := 0) (N' := 201) C rfl tn_100 (fun _ => rfl) rfl (by decide) rfl (Nat.le_of_ble_eq_true rfl) (Nat.le_of_ble_eq_true rfl) dX1_init_8 (fun q1 => ?_)
  refine zb_widen (k := 1) (n := 201) (Nat.le_of_ble_eq_true rfl) (Nat.le_of_ble_eq_true rfl) ?_
  show zB X ((h0, .inr (1, [.int 0, .null])) :: [(q1, .inl (zYi X 1, 201, .inl (fun _ => 0)))]) 1 201 10 _ _
  refine zb_putF (fs' := [.int 0, .ref q1]) C hI fk_X1_9 (fun _ _ _ h => by cases h; rfl) rfl rfl (Nat.le_of_ble_eq_true rfl) rfl dX1_init_10 ?_
  obtain ⟨ad, had⟩ : ∃ ad : Nat → Nat, ad = (fun i => ([h0, q1] : List Nat).getD i 0) := ⟨_, rfl⟩
  have hw : ((h0, .inr (1, [.int 0, .ref q1])) :: [(q1, .inl (zYi X 1, 201, .inl (fun _ => 0)))] : va_W) = zW (zYi X) ad (fun _ _ => 0) shX1 := by rw [had]; rfl
  show zB X ((h0, .inr (1, [.int 0, .ref q1])) :: [(q1, .inl (zYi X 1, 201, .inl (fun _ => 0)))]) _ _ _ _ _
  rw [hw]
  exact E ad _ _ _ _ _ (by rw [had]; rfl) (fun _ _ => by decide) rfl (Nat.le_of_ble_eq_true rfl) (Nat.le_of_ble_eq_true rfl) dX1_init_13
def shX2 : zS := [(0, 2, [some 1, none, some 2]), (1, 40, []), (1, 200, [])]
def fsX2 : List Value := [.null, .int 0, .null]
def poX2 : zM → Prop := fun M => M = fun _ _ => 0
set_option maxRecDepth 100000 in
set_option maxHeartbeats 4000000 in
theorem ini_X2 (l : Launch) : zIni l yX2_init cX2_init 1 1 2 240 12 2 fsX2 0 shX2 poX2 := by
  refine zb_enter (by decide) rfl (by decide) (fun X h0 C hI E => ?_)
  refine zb_aload_n (i := 0) C dX2_init_0 rfl rfl ?_
  refine zb_objInit C tn_175 tn_18 tn_19 rfl (by decide) (by decide) dX2_init_1 ?_
  refine zb_aload_n (i := 0) C dX2_init_4 rfl rfl ?_
  refine zb_bipush (x := 40) C dX2_init_5 (by decide) (by decide) ?_
  refine zb_newa (atype := .int) (ty := .int) (t0 := 0) (N' := 40) C rfl tn_100 (fun _ => rfl) rfl (by decide) rfl (Nat.le_of_ble_eq_true rfl) (Nat.le_of_ble_eq_true rfl) dX2_init_7 (fun q1 => ?_)
  refine zb_widen (k := 1) (n := 40) (Nat.le_of_ble_eq_true rfl) (Nat.le_of_ble_eq_true rfl) ?_
  show zB X ((h0, .inr (2, [.null, .int 0, .null])) :: [(q1, .inl (zYi X 1, 40, .inl (fun _ => 0)))]) 1 40 9 _ _
  refine zb_putF (fs' := [.ref q1, .int 0, .null]) C hI fk_X2_9 (fun _ _ _ h => by cases h; rfl) rfl rfl (Nat.le_of_ble_eq_true rfl) rfl dX2_init_9 ?_
  refine zb_aload_n (i := 0) C dX2_init_12 rfl rfl ?_
  refine zb_sipush (x := 200) C dX2_init_13 (by decide) (by decide) ?_
  refine zb_newa (atype := .int) (ty := .int) (t0 := 0) (N' := 200) C rfl tn_100 (fun _ => rfl) rfl (by decide) rfl (Nat.le_of_ble_eq_true rfl) (Nat.le_of_ble_eq_true rfl) dX2_init_16 (fun q2 => ?_)
  refine zb_widen (k := 2) (n := 240) (Nat.le_of_ble_eq_true rfl) (Nat.le_of_ble_eq_true rfl) ?_
  show zB X ((h0, .inr (2, [.ref q1, .int 0, .null])) :: [(q1, .inl (zYi X 1, 40, .inl (fun _ => 0))), (q2, .inl (zYi X 1, 200, .inl (fun _ => 0)))]) 2 240 18 _ _
  refine zb_putF (fs' := [.ref q1, .int 0, .ref q2]) C hI fk_X2_15 (fun _ _ _ h => by cases h; rfl) rfl rfl (Nat.le_of_ble_eq_true rfl) rfl dX2_init_18 ?_
  obtain ⟨ad, had⟩ : ∃ ad : Nat → Nat, ad = (fun i => ([h0, q1, q2] : List Nat).getD i 0) := ⟨_, rfl⟩
  have hw : ((h0, .inr (2, [.ref q1, .int 0, .ref q2])) :: [(q1, .inl (zYi X 1, 40, .inl (fun _ => 0))), (q2, .inl (zYi X 1, 200, .inl (fun _ => 0)))] : va_W) = zW (zYi X) ad (fun _ _ => 0) shX2 := by rw [had]; rfl
  show zB X ((h0, .inr (2, [.ref q1, .int 0, .ref q2])) :: [(q1, .inl (zYi X 1, 40, .inl (fun _ => 0))), (q2, .inl (zYi X 1, 200, .inl (fun _ => 0)))]) _ _ _ _ _
  rw [hw]
  exact E ad _ _ _ _ _ (by rw [had]; rfl) (fun _ _ => by decide) rfl (Nat.le_of_ble_eq_true rfl) (Nat.le_of_ble_eq_true rfl) dX2_init_21
def shX4 : zS := [(0, 4, [some 1, none, none, some 2, some 3, some 4, none, none, none]), (2, 60, []), (1, 16, []), (1, 16, []), (1, 16, [])]
def fsX4 : List Value := [.null, .int 0, .int 0, .null, .null, .null, .int 0, .int 0, .int 0]
def poX4 : zM → Prop := fun M => M = fun _ _ => 0
set_option maxRecDepth 100000 in
set_option maxHeartbeats 4000000 in
theorem ini_X4 (l : Launch) : zIni l yX4_init cX4_init 1 1 4 108 12 4 fsX4 0 shX4 poX4 := by
  refine zb_enter (by decide) rfl (by decide) (fun X h0 C hI E => ?_)
  refine zb_aload_n (i := 0) C dX4_init_0 rfl rfl ?_
  refine zb_objInit C tn_126 tn_18 tn_19 rfl (by decide) (by decide) dX4_init_1 ?_
  refine zb_aload_n (i := 0) C dX4_init_4 rfl rfl ?_
  refine zb_bipush (x := 60) C dX4_init_5 (by decide) (by decide) ?_
  refine zb_newa (atype := .char) (ty := .char) (t0 := 1) (N' := 60) C rfl tn_151 (fun _ => rfl) rfl (by decide) rfl (Nat.le_of_ble_eq_true rfl) (Nat.le_of_ble_eq_true rfl) dX4_init_7 (fun q1 => ?_)
  refine zb_widen (k := 1) (n := 60) (Nat.le_of_ble_eq_true rfl) (Nat.le_of_ble_eq_true rfl) ?_
  show zB X ((h0, .inr (4, [.null, .int 0, .int 0, .null, .null, .null, .int 0, .int 0, .int 0])) :: [(q1, .inl (zYi X 2, 60, .inl (fun _ => 0)))]) 1 60 9 _ _
  refine zb_putF (fs' := [.ref q1, .int 0, .int 0, .null, .null, .null, .int 0, .int 0, .int 0]) C hI fk_X4_9 (fun _ _ _ h => by cases h; rfl) rfl rfl (Nat.le_of_ble_eq_true rfl) rfl dX4_init_9 ?_
  refine zb_aload_n (i := 0) C dX4_init_12 rfl rfl ?_
  refine zb_bipush (x := 16) C dX4_init_13 (by decide) (by decide) ?_
  refine zb_newa (atype := .int) (ty := .int) (t0 := 0) (N' := 16) C rfl tn_100 (fun _ => rfl) rfl (by decide) rfl (Nat.le_of_ble_eq_true rfl) (Nat.le_of_ble_eq_true rfl) dX4_init_15 (fun q2 => ?_)
  refine zb_widen (k := 2) (n := 76) (Nat.le_of_ble_eq_true rfl) (Nat.le_of_ble_eq_true rfl) ?_
  show zB X ((h0, .inr (4, [.ref q1, .int 0, .int 0, .null, .null, .null, .int 0, .int 0, .int 0])) :: [(q1, .inl (zYi X 2, 60, .inl (fun _ => 0))), (q2, .inl (zYi X 1, 16, .inl (fun _ => 0)))]) 2 76 17 _ _
  refine zb_putF (fs' := [.ref q1, .int 0, .int 0, .ref q2, .null, .null, .int 0, .int 0, .int 0]) C hI fk_X4_15 (fun _ _ _ h => by cases h; rfl) rfl rfl (Nat.le_of_ble_eq_true rfl) rfl dX4_init_17 ?_
  refine zb_aload_n (i := 0) C dX4_init_20 rfl rfl ?_
  refine zb_bipush (x := 16) C dX4_init_21 (by decide) (by decide) ?_
  refine zb_newa (atype := .int) (ty := .int) (t0 := 0) (N' := 16) C rfl tn_100 (fun _ => rfl) rfl (by decide) rfl (Nat.le_of_ble_eq_true rfl) (Nat.le_of_ble_eq_true rfl) dX4_init_23 (fun q3 => ?_)
  refine zb_widen (k := 3) (n := 92) (Nat.le_of_ble_eq_true rfl) (Nat.le_of_ble_eq_true rfl) ?_
  show zB X ((h0, .inr (4, [.ref q1, .int 0, .int 0, .ref q2, .null, .null, .int 0, .int 0, .int 0])) :: [(q1, .inl (zYi X 2, 60, .inl (fun _ => 0))), (q2, .inl (zYi X 1, 16, .inl (fun _ => 0))), (q3, .inl (zYi X 1, 16, .inl (fun _ => 0)))]) 3 92 25 _ _
  refine zb_putF (fs' := [.ref q1, .int 0, .int 0, .ref q2, .ref q3, .null, .int 0, .int 0, .int 0]) C hI fk_X4_19 (fun _ _ _ h => by cases h; rfl) rfl rfl (Nat.le_of_ble_eq_true rfl) rfl dX4_init_25 ?_
  refine zb_aload_n (i := 0) C dX4_init_28 rfl rfl ?_
  refine zb_bipush (x := 16) C dX4_init_29 (by decide) (by decide) ?_
  refine zb_newa (atype := .int) (ty := .int) (t0 := 0) (N' := 16) C rfl tn_100 (fun _ => rfl) rfl (by decide) rfl (Nat.le_of_ble_eq_true rfl) (Nat.le_of_ble_eq_true rfl) dX4_init_31 (fun q4 => ?_)
  refine zb_widen (k := 4) (n := 108) (Nat.le_of_ble_eq_true rfl) (Nat.le_of_ble_eq_true rfl) ?_
  show zB X ((h0, .inr (4, [.ref q1, .int 0, .int 0, .ref q2, .ref q3, .null, .int 0, .int 0, .int 0])) :: [(q1, .inl (zYi X 2, 60, .inl (fun _ => 0))), (q2, .inl (zYi X 1, 16, .inl (fun _ => 0))), (q3, .inl (zYi X 1, 16, .inl (fun _ => 0))), (q4, .inl (zYi X 1, 16, .inl (fun _ => 0)))]) 4 108 33 _ _
  refine zb_putF (fs' := [.ref q1, .int 0, .int 0, .ref q2, .ref q3, .ref q4, .int 0, .int 0, .int 0]) C hI fk_X4_22 (fun _ _ _ h => by cases h; rfl) rfl rfl (Nat.le_of_ble_eq_true rfl) rfl dX4_init_33 ?_
  obtain ⟨ad, had⟩ : ∃ ad : Nat → Nat, ad = (fun i => ([h0, q1, q2, q3, q4] : List Nat).getD i 0) := ⟨_, rfl⟩
  have hw : ((h0, .inr (4, [.ref q1, .int 0, .int 0, .ref q2, .ref q3, .ref q4, .int 0, .int 0, .int 0])) :: [(q1, .inl (zYi X 2, 60, .inl (fun _ => 0))), (q2, .inl (zYi X 1, 16, .inl (fun _ => 0))), (q3, .inl (zYi X 1, 16, .inl (fun _ => 0))), (q4, .inl (zYi X 1, 16, .inl (fun _ => 0)))] : va_W) = zW (zYi X) ad (fun _ _ => 0) shX4 := by rw [had]; rfl
  show zB X ((h0, .inr (4, [.ref q1, .int 0, .int 0, .ref q2, .ref q3, .ref q4, .int 0, .int 0, .int 0])) :: [(q1, .inl (zYi X 2, 60, .inl (fun _ => 0))), (q2, .inl (zYi X 1, 16, .inl (fun _ => 0))), (q3, .inl (zYi X 1, 16, .inl (fun _ => 0))), (q4, .inl (zYi X 1, 16, .inl (fun _ => 0)))]) _ _ _ _ _
  rw [hw]
  exact E ad _ _ _ _ _ (by rw [had]; rfl) (fun _ _ => by decide) rfl (Nat.le_of_ble_eq_true rfl) (Nat.le_of_ble_eq_true rfl) dX4_init_36
def shX5 : zS := [(0, 5, [some 1, some 2, some 3]), (1, 30, []), (1, 30, []), (1, 30, [])]
def fsX5 : List Value := [.null, .null, .null]
def poX5 : zM → Prop := fun M => M = fun _ _ => 0
set_option maxRecDepth 100000 in
set_option maxHeartbeats 4000000 in
theorem ini_X5 (l : Launch) : zIni l yX5_init cX5_init 1 1 3 90 12 5 fsX5 0 shX5 poX5 := by
  refine zb_enter (by decide) rfl (by decide) (fun X h0 C hI E => ?_)
  refine zb_aload_n (i := 0) C dX5_init_0 rfl rfl ?_
  refine zb_objInit C tn_157 tn_18 tn_19 rfl (by decide) (by decide) dX5_init_1 ?_
  refine zb_aload_n (i := 0) C dX5_init_4 rfl rfl ?_
  refine zb_bipush (x := 30) C dX5_init_5 (by decide) (by decide) ?_
  refine zb_newa (atype := .int) (ty := .int) (t0 := 0) (N' := 30) C rfl tn_100 (fun _ => rfl) rfl (by decide) rfl (Nat.le_of_ble_eq_true rfl) (Nat.le_of_ble_eq_true rfl) dX5_init_7 (fun q1 => ?_)
  refine zb_widen (k := 1) (n := 30) (Nat.le_of_ble_eq_true rfl) (Nat.le_of_ble_eq_true rfl) ?_
  show zB X ((h0, .inr (5, [.null, .null, .null])) :: [(q1, .inl (zYi X 1, 30, .inl (fun _ => 0)))]) 1 30 9 _ _
  refine zb_putF (fs' := [.ref q1, .null, .null]) C hI fk_X5_9 (fun _ _ _ h => by cases h; rfl) rfl rfl (Nat.le_of_ble_eq_true rfl) rfl dX5_init_9 ?_
  refine zb_aload_n (i := 0) C dX5_init_12 rfl rfl ?_
  refine zb_bipush (x := 30) C dX5_init_13 (by decide) (by decide) ?_
  refine zb_newa (atype := .int) (ty := .int) (t0 := 0) (N' := 30) C rfl tn_100 (fun _ => rfl) rfl (by decide) rfl (Nat.le_of_ble_eq_true rfl) (Nat.le_of_ble_eq_true rfl) dX5_init_15 (fun q2 => ?_)
  refine zb_widen (k := 2) (n := 60) (Nat.le_of_ble_eq_true rfl) (Nat.le_of_ble_eq_true rfl) ?_
  show zB X ((h0, .inr (5, [.ref q1, .null, .null])) :: [(q1, .inl (zYi X 1, 30, .inl (fun _ => 0))), (q2, .inl (zYi X 1, 30, .inl (fun _ => 0)))]) 2 60 17 _ _
  refine zb_putF (fs' := [.ref q1, .ref q2, .null]) C hI fk_X5_15 (fun _ _ _ h => by cases h; rfl) rfl rfl (Nat.le_of_ble_eq_true rfl) rfl dX5_init_17 ?_
  refine zb_aload_n (i := 0) C dX5_init_20 rfl rfl ?_
  refine zb_bipush (x := 30) C dX5_init_21 (by decide) (by decide) ?_
  refine zb_newa (atype := .int) (ty := .int) (t0 := 0) (N' := 30) C rfl tn_100 (fun _ => rfl) rfl (by decide) rfl (Nat.le_of_ble_eq_true rfl) (Nat.le_of_ble_eq_true rfl) dX5_init_23 (fun q3 => ?_)
  refine zb_widen (k := 3) (n := 90) (Nat.le_of_ble_eq_true rfl) (Nat.le_of_ble_eq_true rfl) ?_
  show zB X ((h0, .inr (5, [.ref q1, .ref q2, .null])) :: [(q1, .inl (zYi X 1, 30, .inl (fun _ => 0))), (q2, .inl (zYi X 1, 30, .inl (fun _ => 0))), (q3, .inl (zYi X 1, 30, .inl (fun _ => 0)))]) 3 90 25 _ _
  refine zb_putF (fs' := [.ref q1, .ref q2, .ref q3]) C hI fk_X5_18 (fun _ _ _ h => by cases h; rfl) rfl rfl (Nat.le_of_ble_eq_true rfl) rfl dX5_init_25 ?_
  obtain ⟨ad, had⟩ : ∃ ad : Nat → Nat, ad = (fun i => ([h0, q1, q2, q3] : List Nat).getD i 0) := ⟨_, rfl⟩
  have hw : ((h0, .inr (5, [.ref q1, .ref q2, .ref q3])) :: [(q1, .inl (zYi X 1, 30, .inl (fun _ => 0))), (q2, .inl (zYi X 1, 30, .inl (fun _ => 0))), (q3, .inl (zYi X 1, 30, .inl (fun _ => 0)))] : va_W) = zW (zYi X) ad (fun _ _ => 0) shX5 := by rw [had]; rfl
  show zB X ((h0, .inr (5, [.ref q1, .ref q2, .ref q3])) :: [(q1, .inl (zYi X 1, 30, .inl (fun _ => 0))), (q2, .inl (zYi X 1, 30, .inl (fun _ => 0))), (q3, .inl (zYi X 1, 30, .inl (fun _ => 0)))]) _ _ _ _ _
  rw [hw]
  exact E ad _ _ _ _ _ (by rw [had]; rfl) (fun _ _ => by decide) rfl (Nat.le_of_ble_eq_true rfl) (Nat.le_of_ble_eq_true rfl) dX5_init_28
def shX6 : zS := [(0, 6, [none, none, none, none])]
def fsX6 : List Value := [.int 0, .int 0, .int 0, .int 0]
def poX6 : zM → Prop := fun M => M = fun _ _ => 0
set_option maxRecDepth 100000 in
set_option maxHeartbeats 4000000 in
theorem ini_X6 (l : Launch) : zIni l yX6_init cX6_init 1 1 0 0 12 6 fsX6 0 shX6 poX6 := by
  refine zb_enter (by decide) rfl (by decide) (fun X h0 C hI E => ?_)
  refine zb_aload_n (i := 0) C dX6_init_0 rfl rfl ?_
  refine zb_objInit C tn_209 tn_18 tn_19 rfl (by decide) (by decide) dX6_init_1 ?_
  obtain ⟨ad, had⟩ : ∃ ad : Nat → Nat, ad = (fun i => ([h0] : List Nat).getD i 0) := ⟨_, rfl⟩
  have hw : ((h0, .inr (6, [.int 0, .int 0, .int 0, .int 0])) :: [] : va_W) = zW (zYi X) ad (fun _ _ => 0) shX6 := by rw [had]; rfl
  show zB X ((h0, .inr (6, [.int 0, .int 0, .int 0, .int 0])) :: []) _ _ _ _ _
  rw [hw]
  exact E ad _ _ _ _ _ (by rw [had]; rfl) (fun _ _ => by decide) rfl (Nat.le_of_ble_eq_true rfl) (Nat.le_of_ble_eq_true rfl) dX6_init_4
def shX0 : zS := [(0, 0, [none, none, some 1, some 2, some 3, some 4, none, none, some 5, some 6, some 7, some 8, some 9, none]), (1, 30, []), (1, 30, []), (1, 30, []), (1, 30, []), (1, 40, []), (1, 40, []), (1, 40, []), (1, 200, []), (1, 2, [])]
def fsX0 : List Value := [.int 0, .int 0, .null, .null, .null, .null, .int 0, .int 0, .null, .null, .null, .null, .null, .int 0]
def poX0 : zM → Prop := fun M => M = zup (zup (zfl (fun _ _ => 0) 8 200 2) 9 0 0) 9 1 60
set_option maxRecDepth 100000 in
set_option maxHeartbeats 4000000 in
theorem ini_X0 (l : Launch) : zIni l yX0_init cX0_init 1 1 9 442 23 0 fsX0 0 shX0 poX0 := by
  refine zb_enter (by decide) rfl (by decide) (fun X h0 C hI E => ?_)
  refine zb_aload_n (i := 0) C dX0_init_0 rfl rfl ?_
  refine zb_objInit C tn_25 tn_18 tn_19 rfl (by decide) (by decide) dX0_init_1 ?_
  refine zb_aload_n (i := 0) C dX0_init_4 rfl rfl ?_
  refine zb_bipush (x := 30) C dX0_init_5 (by decide) (by decide) ?_
  refine zb_newa (atype := .int) (ty := .int) (t0 := 0) (N' := 30) C rfl tn_100 (fun _ => rfl) rfl (by decide) rfl (Nat.le_of_ble_eq_true rfl) (Nat.le_of_ble_eq_true rfl) dX0_init_7 (fun q1 => ?_)
  refine zb_widen (k := 1) (n := 30) (Nat.le_of_ble_eq_true rfl) (Nat.le_of_ble_eq_true rfl) ?_
  show zB X ((h0, .inr (0, [.int 0, .int 0, .null, .null, .null, .null, .int 0, .int 0, .null, .null, .null, .null, .null, .int 0])) :: [(q1, .inl (zYi X 1, 30, .inl (fun _ => 0)))]) 1 30 9 _ _
  refine zb_putF (fs' := [.int 0, .int 0, .ref q1, .null, .null, .null, .int 0, .int 0, .null, .null, .null, .null, .null, .int 0]) C hI fk_X0_9 (fun _ _ _ h => by cases h; rfl) rfl rfl (Nat.le_of_ble_eq_true rfl) rfl dX0_init_9 ?_
  refine zb_aload_n (i := 0) C dX0_init_12 rfl rfl ?_
  refine zb_bipush (x := 30) C dX0_init_13 (by decide) (by decide) ?_
  refine zb_newa (atype := .int) (ty := .int) (t0 := 0) (N' := 30) C rfl tn_100 (fun _ => rfl) rfl (by decide) rfl (Nat.le_of_ble_eq_true rfl) (Nat.le_of_ble_eq_true rfl) dX0_init_15 (fun q2 => ?_)
  refine zb_widen (k := 2) (n := 60) (Nat.le_of_ble_eq_true rfl) (Nat.le_of_ble_eq_true rfl) ?_
  show zB X ((h0, .inr (0, [.int 0, .int 0, .ref q1, .null, .null, .null, .int 0, .int 0, .null, .null, .null, .null, .null, .int 0])) :: [(q1, .inl (zYi X 1, 30, .inl (fun _ => 0))), (q2, .inl (zYi X 1, 30, .inl (fun _ => 0)))]) 2 60 17 _ _
  refine zb_putF (fs' := [.int 0, .int 0, .ref q1, .ref q2, .null, .null, .int 0, .int 0, .null, .null, .null, .null, .null, .int 0]) C hI fk_X0_15 (fun _ _ _ h => by cases h; rfl) rfl rfl (Nat.le_of_ble_eq_true rfl) rfl dX0_init_17 ?_
  refine zb_aload_n (i := 0) C dX0_init_20 rfl rfl ?_
  refine zb_bipush (x := 30) C dX0_init_21 (by decide) (by decide) ?_
  refine zb_newa (atype := .int) (ty := .int) (t0 := 0) (N' := 30) C rfl tn_100 (fun _ => rfl) rfl (by decide) rfl (Nat.le_of_ble_eq_true rfl) (Nat.le_of_ble_eq_true rfl) dX0_init_23 (fun q3 => ?_)
  refine zb_widen (k := 3) (n := 90) (Nat.le_of_ble_eq_true rfl) (Nat.le_of_ble_eq_true rfl) ?_
  show zB X ((h0, .inr (0, [.int 0, .int 0, .ref q1, .ref q2, .null, .null, .int 0, .int 0, .null, .null, .null, .null, .null, .int 0])) :: [(q1, .inl (zYi X 1, 30, .inl (fun _ => 0))), (q2, .inl (zYi X 1, 30, .inl (fun _ => 0))), (q3, .inl (zYi X 1, 30, .inl (fun _ => 0)))]) 3 90 25 _ _
  refine zb_putF (fs' := [.int 0, .int 0, .ref q1, .ref q2, .ref q3, .null, .int 0, .int 0, .null, .null, .null, .null, .null, .int 0]) C hI fk_X0_18 (fun _ _ _ h => by cases h; rfl) rfl rfl (Nat.le_of_ble_eq_true rfl) rfl dX0_init_25 ?_
  refine zb_aload_n (i := 0) C dX0_init_28 rfl rfl ?_
  refine zb_bipush (x := 30) C dX0_init_29 (by decide) (by decide) ?_
  refine zb_newa (atype := .int) (ty := .int) (t0 := 0) (N' := 30) C rfl tn_100 (fun _ => rfl) rfl (by decide) rfl (Nat.le_of_ble_eq_true rfl) (Nat.le_of_ble_eq_true rfl) dX0_init_31 (fun q4 => ?_)
  refine zb_widen (k := 4) (n := 120) (Nat.le_of_ble_eq_true rfl) (Nat.le_of_ble_eq_true rfl) ?_
  show zB X ((h0, .inr (0, [.int 0, .int 0, .ref q1, .ref q2, .ref q3, .null, .int 0, .int 0, .null, .null, .null, .null, .null, .int 0])) :: [(q1, .inl (zYi X 1, 30, .inl (fun _ => 0))), (q2, .inl (zYi X 1, 30, .inl (fun _ => 0))), (q3, .inl (zYi X 1, 30, .inl (fun _ => 0))), (q4, .inl (zYi X 1, 30, .inl (fun _ => 0)))]) 4 120 33 _ _
  refine zb_putF (fs' := [.int 0, .int 0, .ref q1, .ref q2, .ref q3, .ref q4, .int 0, .int 0, .null, .null, .null, .null, .null, .int 0]) C hI fk_X0_21 (fun _ _ _ h => by cases h; rfl) rfl rfl (Nat.le_of_ble_eq_true rfl) rfl dX0_init_33 ?_
  refine zb_aload_n (i := 0) C dX0_init_36 rfl rfl ?_
  refine zb_bipush (x := 40) C dX0_init_37 (by decide) (by decide) ?_
  refine zb_newa (atype := .int) (ty := .int) (t0 := 0) (N' := 40) C rfl tn_100 (fun _ => rfl) rfl (by decide) rfl (Nat.le_of_ble_eq_true rfl) (Nat.le_of_ble_eq_true rfl) dX0_init_39 (fun q5 => ?_)
  refine zb_widen (k := 5) (n := 160) (Nat.le_of_ble_eq_true rfl) (Nat.le_of_ble_eq_true rfl) ?_
  show zB X ((h0, .inr (0, [.int 0, .int 0, .ref q1, .ref q2, .ref q3, .ref q4, .int 0, .int 0, .null, .null, .null, .null, .null, .int 0])) :: [(q1, .inl (zYi X 1, 30, .inl (fun _ => 0))), (q2, .inl (zYi X 1, 30, .inl (fun _ => 0))), (q3, .inl (zYi X 1, 30, .inl (fun _ => 0))), (q4, .inl (zYi X 1, 30, .inl (fun _ => 0))), (q5, .inl (zYi X 1, 40, .inl (fun _ => 0)))]) 5 160 41 _ _
  refine zb_putF (fs' := [.int 0, .int 0, .ref q1, .ref q2, .ref q3, .ref q4, .int 0, .int 0, .ref q5, .null, .null, .null, .null, .int 0]) C hI fk_X0_24 (fun _ _ _ h => by cases h; rfl) rfl rfl (Nat.le_of_ble_eq_true rfl) rfl dX0_init_41 ?_
  refine zb_aload_n (i := 0) C dX0_init_44 rfl rfl ?_
  refine zb_bipush (x := 40) C dX0_init_45 (by decide) (by decide) ?_
  refine zb_newa (atype := .int) (ty := .int) (t0 := 0) (N' := 40) C rfl tn_100 (fun _ => rfl) rfl (by decide) rfl (Nat.le_of_ble_eq_true rfl) (Nat.le_of_ble_eq_true rfl) dX0_init_47 (fun q6 => ?_)
  refine zb_widen (k := 6) (n := 200) (Nat.le_of_ble_eq_true rfl) (Nat.le_of_ble_eq_true rfl) ?_
  show zB X ((h0, .inr (0, [.int 0, .int 0, .ref q1, .ref q2, .ref q3, .ref q4, .int 0, .int 0, .ref q5, .null, .null, .null, .null, .int 0])) :: [(q1, .inl (zYi X 1, 30, .inl (fun _ => 0))), (q2, .inl (zYi X 1, 30, .inl (fun _ => 0))), (q3, .inl (zYi X 1, 30, .inl (fun _ => 0))), (q4, .inl (zYi X 1, 30, .inl (fun _ => 0))), (q5, .inl (zYi X 1, 40, .inl (fun _ => 0))), (q6, .inl (zYi X 1, 40, .inl (fun _ => 0)))]) 6 200 49 _ _
  refine zb_putF (fs' := [.int 0, .int 0, .ref q1, .ref q2, .ref q3, .ref q4, .int 0, .int 0, .ref q5, .ref q6, .null, .null, .null, .int 0]) C hI fk_X0_27 (fun _ _ _ h => by cases h; rfl) rfl rfl (Nat.le_of_ble_eq_true rfl) rfl dX0_init_49 ?_
  refine zb_aload_n (i := 0) C dX0_init_52 rfl rfl ?_
  refine zb_bipush (x := 40) C dX0_init_53 (by decide) (by decide) ?_
  refine zb_newa (atype := .int) (ty := .int) (t0 := 0) (N' := 40) C rfl tn_100 (fun _ => rfl) rfl (by decide) rfl (Nat.le_of_ble_eq_true rfl) (Nat.le_of_ble_eq_true rfl) dX0_init_55 (fun q7 => ?_)
  refine zb_widen (k := 7) (n := 240) (Nat.le_of_ble_eq_true rfl) (Nat.le_of_ble_eq_true rfl) ?_
  show zB X ((h0, .inr (0, [.int 0, .int 0, .ref q1, .ref q2, .ref q3, .ref q4, .int 0, .int 0, .ref q5, .ref q6, .null, .null, .null, .int 0])) :: [(q1, .inl (zYi X 1, 30, .inl (fun _ => 0))), (q2, .inl (zYi X 1, 30, .inl (fun _ => 0))), (q3, .inl (zYi X 1, 30, .inl (fun _ => 0))), (q4, .inl (zYi X 1, 30, .inl (fun _ => 0))), (q5, .inl (zYi X 1, 40, .inl (fun _ => 0))), (q6, .inl (zYi X 1, 40, .inl (fun _ => 0))), (q7, .inl (zYi X 1, 40, .inl (fun _ => 0)))]) 7 240 57 _ _
  refine zb_putF (fs' := [.int 0, .int 0, .ref q1, .ref q2, .ref q3, .ref q4, .int 0, .int 0, .ref q5, .ref q6, .ref q7, .null, .null, .int 0]) C hI fk_X0_30 (fun _ _ _ h => by cases h; rfl) rfl rfl (Nat.le_of_ble_eq_true rfl) rfl dX0_init_57 ?_
  refine zb_aload_n (i := 0) C dX0_init_60 rfl rfl ?_
  refine zb_sipush (x := 200) C dX0_init_61 (by decide) (by decide) ?_
  refine zb_newa (atype := .int) (ty := .int) (t0 := 0) (N' := 200) C rfl tn_100 (fun _ => rfl) rfl (by decide) rfl (Nat.le_of_ble_eq_true rfl) (Nat.le_of_ble_eq_true rfl) dX0_init_64 (fun q8 => ?_)
  refine zb_widen (k := 8) (n := 440) (Nat.le_of_ble_eq_true rfl) (Nat.le_of_ble_eq_true rfl) ?_
  show zB X ((h0, .inr (0, [.int 0, .int 0, .ref q1, .ref q2, .ref q3, .ref q4, .int 0, .int 0, .ref q5, .ref q6, .ref q7, .null, .null, .int 0])) :: [(q1, .inl (zYi X 1, 30, .inl (fun _ => 0))), (q2, .inl (zYi X 1, 30, .inl (fun _ => 0))), (q3, .inl (zYi X 1, 30, .inl (fun _ => 0))), (q4, .inl (zYi X 1, 30, .inl (fun _ => 0))), (q5, .inl (zYi X 1, 40, .inl (fun _ => 0))), (q6, .inl (zYi X 1, 40, .inl (fun _ => 0))), (q7, .inl (zYi X 1, 40, .inl (fun _ => 0))), (q8, .inl (zYi X 1, 200, .inl (fun _ => 0)))]) 8 440 66 _ _
  refine zb_putF (fs' := [.int 0, .int 0, .ref q1, .ref q2, .ref q3, .ref q4, .int 0, .int 0, .ref q5, .ref q6, .ref q7, .ref q8, .null, .int 0]) C hI fk_X0_33 (fun _ _ _ h => by cases h; rfl) rfl rfl (Nat.le_of_ble_eq_true rfl) rfl dX0_init_66 ?_
  refine zb_aload_n (i := 0) C dX0_init_69 rfl rfl ?_
  refine zb_iconst (x := 2) C dX0_init_70 (by decide) (by decide) ?_
  refine zb_newa (atype := .int) (ty := .int) (t0 := 0) (N' := 2) C rfl tn_100 (fun _ => rfl) rfl (by decide) rfl (Nat.le_of_ble_eq_true rfl) (Nat.le_of_ble_eq_true rfl) dX0_init_71 (fun q9 => ?_)
  refine zb_widen (k := 9) (n := 442) (Nat.le_of_ble_eq_true rfl) (Nat.le_of_ble_eq_true rfl) ?_
  show zB X ((h0, .inr (0, [.int 0, .int 0, .ref q1, .ref q2, .ref q3, .ref q4, .int 0, .int 0, .ref q5, .ref q6, .ref q7, .ref q8, .null, .int 0])) :: [(q1, .inl (zYi X 1, 30, .inl (fun _ => 0))), (q2, .inl (zYi X 1, 30, .inl (fun _ => 0))), (q3, .inl (zYi X 1, 30, .inl (fun _ => 0))), (q4, .inl (zYi X 1, 30, .inl (fun _ => 0))), (q5, .inl (zYi X 1, 40, .inl (fun _ => 0))), (q6, .inl (zYi X 1, 40, .inl (fun _ => 0))), (q7, .inl (zYi X 1, 40, .inl (fun _ => 0))), (q8, .inl (zYi X 1, 200, .inl (fun _ => 0))), (q9, .inl (zYi X 1, 2, .inl (fun _ => 0)))]) 9 442 73 _ _
  refine zb_putF (fs' := [.int 0, .int 0, .ref q1, .ref q2, .ref q3, .ref q4, .int 0, .int 0, .ref q5, .ref q6, .ref q7, .ref q8, .ref q9, .int 0]) C hI fk_X0_36 (fun _ _ _ h => by cases h; rfl) rfl rfl (Nat.le_of_ble_eq_true rfl) rfl dX0_init_73 ?_
  obtain ⟨ad, had⟩ : ∃ ad : Nat → Nat, ad = (fun i => ([h0, q1, q2, q3, q4, q5, q6, q7, q8, q9] : List Nat).getD i 0) := ⟨_, rfl⟩
  have hw : ((h0, .inr (0, [.int 0, .int 0, .ref q1, .ref q2, .ref q3, .ref q4, .int 0, .int 0, .ref q5, .ref q6, .ref q7, .ref q8, .ref q9, .int 0])) :: [(q1, .inl (zYi X 1, 30, .inl (fun _ => 0))), (q2, .inl (zYi X 1, 30, .inl (fun _ => 0))), (q3, .inl (zYi X 1, 30, .inl (fun _ => 0))), (q4, .inl (zYi X 1, 30, .inl (fun _ => 0))), (q5, .inl (zYi X 1, 40, .inl (fun _ => 0))), (q6, .inl (zYi X 1, 40, .inl (fun _ => 0))), (q7, .inl (zYi X 1, 40, .inl (fun _ => 0))), (q8, .inl (zYi X 1, 200, .inl (fun _ => 0))), (q9, .inl (zYi X 1, 2, .inl (fun _ => 0)))] : va_W) = zW (zYi X) ad (fun _ _ => 0) shX0 := by rw [had]; rfl
  show zB X ((h0, .inr (0, [.int 0, .int 0, .ref q1, .ref q2, .ref q3, .ref q4, .int 0, .int 0, .ref q5, .ref q6, .ref q7, .ref q8, .ref q9, .int 0])) :: [(q1, .inl (zYi X 1, 30, .inl (fun _ => 0))), (q2, .inl (zYi X 1, 30, .inl (fun _ => 0))), (q3, .inl (zYi X 1, 30, .inl (fun _ => 0))), (q4, .inl (zYi X 1, 30, .inl (fun _ => 0))), (q5, .inl (zYi X 1, 40, .inl (fun _ => 0))), (q6, .inl (zYi X 1, 40, .inl (fun _ => 0))), (q7, .inl (zYi X 1, 40, .inl (fun _ => 0))), (q8, .inl (zYi X 1, 200, .inl (fun _ => 0))), (q9, .inl (zYi X 1, 2, .inl (fun _ => 0)))]) _ _ _ _ _
  rw [hw]
  have h0a : zr h0 = zr (ad 0) := by rw [had]; rfl
  refine zb_aload_n (i := 0) C dX0_init_76 rfl rfl ?_
  rw [h0a]
  refine zb_getrW (i := 0) (j := 8) C rfl fk_X0_33 rfl dX0_init_77 ?_
  refine zb_iconst (x := 2) C dX0_init_80 (by decide) (by decide) ?_
  refine zb_nil ?_
  refine zb_callSv (As := [zr 8, zi 2]) (st := []) C (fun _ _ => by decide) (wfill l (i := 8) (n := 200) rfl (by decide) (v := 2) (Φ := fun M1 => M1 = zfl (fun _ _ => 0) 8 200 2) (fun M1 h => h)) ⟨tn_26, tn_3, tn_28, by decide +kernel⟩ tn_27 rfl (fun x hx => by rcases List.mem_cons.mp hx with h | h; cases h; rcases List.mem_cons.mp h with h | h; cases h; decide; cases h) ⟨Nat.le_of_ble_eq_true rfl, Nat.le_of_ble_eq_true rfl⟩ rfl (fun v hv => (List.not_mem_nil hv).elim) rfl (by decide) dX0_init_81 (fun M1 hM1 hJ => ?_) ⟨Nat.le_of_ble_eq_true rfl, Nat.le_of_ble_eq_true rfl⟩
  subst hJ
  refine zb_app ?_
  refine zb_aload_n (i := 0) C dX0_init_84 rfl rfl ?_
  refine zb_getrW (i := 0) (j := 9) C rfl fk_X0_36 rfl dX0_init_85 ?_
  refine zb_iconst (x := 0) C dX0_init_88 (by decide) (by decide) ?_
  refine zb_iconst (x := 0) C dX0_init_89 (by decide) (by decide) ?_
  refine zb_iastW (i := 9) (n := 2) C rfl (by decide) (by decide) dX0_init_90 ?_
  refine zb_aload_n (i := 0) C dX0_init_91 rfl rfl ?_
  refine zb_getrW (i := 0) (j := 9) C rfl fk_X0_36 rfl dX0_init_92 ?_
  refine zb_iconst (x := 1) C dX0_init_95 (by decide) (by decide) ?_
  refine zb_bipush (x := 60) C dX0_init_96 (by decide) (by decide) ?_
  refine zb_iastW (i := 9) (n := 2) C rfl (by decide) (by decide) dX0_init_98 ?_
  exact E ad _ _ _ _ _ (by rw [had]; rfl) (zup_rm (zup_rm hM1 (by decide)) (by decide)) rfl (Nat.le_of_ble_eq_true rfl) (Nat.le_of_ble_eq_true rfl) dX0_init_99
