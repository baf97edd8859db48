/-! shapes put together; the reference's constructor (printed by gen/inits2.py) -/
def zWk (ids : Nat → ClassId) (ad : Nat → Nat) (M : zM) (k : Nat) (shp : zS) : va_W := shp.mapIdx (fun i sh => (ad (k + i), zce ids ad (M (k + i)) sh))
theorem zWk_0 (ids : Nat → ClassId) (ad : Nat → Nat) (M : zM) (shp : zS) : zWk ids ad M 0 shp = zW ids ad M shp := by
  unfold zWk zW
  congr 1
  funext i sh
  rw [Nat.zero_add]
theorem zWk_app (ids : Nat → ClassId) (ad : Nat → Nat) (M : zM) (k : Nat) (s1 s2 : zS) : zWk ids ad M k (s1 ++ s2) = zWk ids ad M k s1 ++ zWk ids ad M (k + s1.length) s2 := by
  unfold zWk
  rw [List.mapIdx_append]
  congr 2
  funext i sh
  rw [show k + (i + s1.length) = k + s1.length + i by omega]
def shf (k : Nat) (shp : zS) : zS := shp.map (fun sh => (sh.1, sh.2.1, sh.2.2.map (Option.map (fun j => j + k))))
def shOk (n : Nat) (shp : zS) : Bool := Nat.ble shp.length n && shp.all (fun sh => sh.2.2.all (fun r => match r with | none => true | some j => Nat.blt j n))
theorem zfs_shf {a c : Nat → Nat} {f : Int → Int} {k n : Nat} {fl : List (Option Nat)} (ha : ∀ i, i < n → a (k + i) = c i) (hr : ∀ j, some j ∈ fl → j < n) : zfs a f (fl.map (Option.map (fun j => j + k))) = zfs c f fl := by
  apply List.ext_getElem?
  intro i
  unfold zfs
  rw [List.getElem?_mapIdx, List.getElem?_mapIdx, List.getElem?_map]
  cases hi : fl[i]? with
  | none => rfl
  | some o =>
    cases o with
    | none => rfl
    | some j =>
      have hj := hr j (List.mem_of_getElem? hi)
      show some (Value.ref (a (j + k))) = some (Value.ref (c j))
      rw [Nat.add_comm, ha j hj]
theorem zWk_eq {ids : Nat → ClassId} {a c : Nat → Nat} {M Mc : zM} {k : Nat} (n : Nat) {shp : zS} (hok : shOk n shp = true) (ha : ∀ i, i < n → a (k + i) = c i) (hM : ∀ i, i < n → M (k + i) = Mc i) : zWk ids a M k (shf k shp) = zW ids c Mc shp := by
  unfold shOk at hok
  rw [Bool.and_eq_true, List.all_eq_true] at hok
  have hlen := Nat.le_of_ble_eq_true hok.1
  have hr : ∀ sh ∈ shp, ∀ j, some j ∈ sh.2.2 → j < n := by
    intro sh hs j hj
    have h1 := hok.2 sh hs
    rw [List.all_eq_true] at h1
    have h2 := h1 _ hj
    exact Nat.le_of_ble_eq_true h2
  apply List.ext_getElem?
  intro i
  unfold zWk zW shf
  rw [List.getElem?_mapIdx, List.getElem?_mapIdx, List.getElem?_map]
  cases hi : shp[i]? with
  | none => rfl
  | some sh =>
    have hin : i < n := Nat.lt_of_lt_of_le (List.getElem?_eq_some_iff.mp hi).1 hlen
    have hrs := hr sh (List.mem_of_getElem? hi)
    simp only [Option.map_some]
    rw [ha i hin, hM i hin]
    congr 2
    obtain ⟨t, m, fl⟩ := sh
    rcases t with _ | _ | _ | _ | _ | t
    · show Sum.inr (m, zfs a (Mc i) (fl.map (Option.map (fun j => j + k)))) = Sum.inr (m, zfs c (Mc i) fl)
      rw [zfs_shf ha hrs]
    · rfl
    · rfl
    · rfl
    · show Sum.inl (ids 4, m, Sum.inr (Sum.inr (Sum.inr (Sum.inr (fun j => ((fl.map (Option.map (fun j => j + k))).getD j none).map a))))) = Sum.inl (ids 4, m, Sum.inr (Sum.inr (Sum.inr (Sum.inr (fun j => (fl.getD j none).map c)))))
      have e : (fun j => ((fl.map (Option.map (fun j => j + k))).getD j none).map a) = (fun j => (fl.getD j none).map c) := by
        funext j
        rw [List.getD_eq_getElem?_getD, List.getD_eq_getElem?_getD, List.getElem?_map]
        cases hj : fl[j]? with
        | none => rfl
        | some o =>
          cases o with
          | none => rfl
          | some q =>
            have hq := hrs q (List.mem_of_getElem? hj)
            show some (a (q + k)) = some (c q)
            rw [Nat.add_comm, ha q hq]
      rw [e]
    · rfl
theorem flat_perm {α β : Type} (B : α → List β) {l1 l2 : List α} (h : l1.Perm l2) : (l1.flatMap B).Perm (l2.flatMap B) := by
  induction h with
  | nil => exact List.Perm.refl _
  | cons x _ ih =>
    rw [List.flatMap_cons, List.flatMap_cons]
    exact List.Perm.append_left _ ih
  | swap x y l =>
    rw [List.flatMap_cons, List.flatMap_cons, List.flatMap_cons, List.flatMap_cons]
    exact List.perm_append_comm_assoc _ _ _
  | trans _ _ ih1 ih2 => exact ih1.trans ih2
theorem tn_752 : (Jvm.Cond.methodLink "BarStripsModel" (1 : Nat) ({ cls := "java/lang/Object", name := "<init>", desc := "()V" } : Jvm.MethodName)) ∈ lw_g := lw_g_in (lw_t_in (List.mem_of_getElem? (i := 752) (by decide +kernel))) rfl
theorem tn_799 : (Jvm.Cond.arrayClass Jvm.ClassFile.FieldType.boolean) ∈ lw_g := lw_g_in (lw_t_in (List.mem_of_getElem? (i := 799) (by decide +kernel))) rfl
def fsX8 : List Value := [.null, .null, .null, .int 0, .null, .int 0, .null, .int 0, .null, .null, .null, .null, .int 0, .int 0, .null]
def poX8 : zM → Prop := fun M => (∀ j, 0 ≤ j → j < 200 → M 1 (242 + j) = 2) ∧ M 1 443 = 60 ∧ (∀ x, (x < 242 ∨ x = 442 ∨ 443 < x) → M 1 x = 0) ∧ ∀ a, a ≠ 1 → ∀ x, M a x = 0
def mlI (k : Int) (M : zM) : Prop := (∀ j, 0 ≤ j → j < k → M 1 (242 + j) = 2) ∧ (∀ x, (x < 242 ∨ 242 + k ≤ x) → M 1 x = 0) ∧ ∀ a, a ≠ 1 → ∀ x, M a x = 0
theorem mlI_s {k : Int} {M : zM} (k0 : 0 ≤ k) (h : mlI k M) : mlI (k + 1) (zup M 1 (242 + k) 2) := by
  refine ⟨fun j j0 j1 => ?_, fun x hx => ?_, fun a ha x => by rw [zup_other ha]; exact h.2.2 a ha x⟩
  · by_cases e : j = k
    · rw [e, zup_at]
    · rw [zup_ne (by omega)]; exact h.1 j j0 (by omega)
  · rw [zup_ne (by omega)]; exact h.2.1 x (by omega)
theorem mlI_e {M : zM} (h : mlI 200 M) : poX8 (zup M 1 443 60) := by
  refine ⟨fun j j0 j1 => ?_, zup_at _ _ _ _, fun x hx => ?_, fun a ha x => by rw [zup_other ha]; exact h.2.2 a ha x⟩
  · rw [zup_ne (by omega)]; exact h.1 j j0 j1
  · rw [zup_ne (by omega)]; exact h.2.1 x (by omega)
set_option maxRecDepth 100000 in
set_option maxHeartbeats 4000000 in
theorem ini_X8 (l : Launch) : zIni l yX8_init cX8_init 2 1 10 4219 12 8 fsX8 0 shM poX8 := by
  refine zb_enter (by decide) rfl (by decide) (fun X h0 C hI E => ?_)
  refine zb_aload_n (i := 0) C dX8_init_0 rfl rfl ?_
  refine zb_objInit C tn_752 tn_19 tn_20 rfl (by decide) (by decide) dX8_init_1 ?_
  refine zb_aload_n (i := 0) C dX8_init_4 rfl rfl ?_
  refine zb_sipush (x := 447) C dX8_init_5 (by decide) (by decide) ?_
  refine zb_newa (atype := .int) (ty := .int) (t0 := 0) (N' := 447) C rfl tn_101 (fun _ => rfl) rfl (by decide) rfl (Nat.le_of_ble_eq_true rfl) (Nat.le_of_ble_eq_true rfl) dX8_init_8 (fun q1 => ?_)
  refine zb_widen (k := 1) (n := 447) (Nat.le_of_ble_eq_true rfl) (Nat.le_of_ble_eq_true rfl) ?_
  show zB X ((h0, .inr (8, [.null, .null, .null, .int 0, .null, .int 0, .null, .int 0, .null, .null, .null, .null, .int 0, .int 0, .null])) :: [(q1, .inl (zYi X 1, 447, .inl (fun _ => 0)))]) 1 447 10 _ _
  refine zb_putF (fs' := [.ref q1, .null, .null, .int 0, .null, .int 0, .null, .int 0, .null, .null, .null, .null, .int 0, .int 0, .null]) C hI fk_X8_7 (fun _ _ _ h => by cases h; rfl) rfl rfl (Nat.le_of_ble_eq_true rfl) rfl dX8_init_10 ?_
  refine zb_aload_n (i := 0) C dX8_init_13 rfl rfl ?_
  refine zb_sipush (x := 447) C dX8_init_14 (by decide) (by decide) ?_
  refine zb_newa (atype := .int) (ty := .int) (t0 := 0) (N' := 447) C rfl tn_101 (fun _ => rfl) rfl (by decide) rfl (Nat.le_of_ble_eq_true rfl) (Nat.le_of_ble_eq_true rfl) dX8_init_17 (fun q2 => ?_)
  refine zb_widen (k := 2) (n := 894) (Nat.le_of_ble_eq_true rfl) (Nat.le_of_ble_eq_true rfl) ?_
  show zB X ((h0, .inr (8, [.ref q1, .null, .null, .int 0, .null, .int 0, .null, .int 0, .null, .null, .null, .null, .int 0, .int 0, .null])) :: [(q1, .inl (zYi X 1, 447, .inl (fun _ => 0))), (q2, .inl (zYi X 1, 447, .inl (fun _ => 0)))]) 2 894 19 _ _
  refine zb_putF (fs' := [.ref q1, .ref q2, .null, .int 0, .null, .int 0, .null, .int 0, .null, .null, .null, .null, .int 0, .int 0, .null]) C hI fk_X8_13 (fun _ _ _ h => by cases h; rfl) rfl rfl (Nat.le_of_ble_eq_true rfl) rfl dX8_init_19 ?_
  refine zb_aload_n (i := 0) C dX8_init_22 rfl rfl ?_
  refine zb_sipush (x := 1788) C dX8_init_23 (by decide) (by decide) ?_
  refine zb_newa (atype := .int) (ty := .int) (t0 := 0) (N' := 1788) C rfl tn_101 (fun _ => rfl) rfl (by decide) rfl (Nat.le_of_ble_eq_true rfl) (Nat.le_of_ble_eq_true rfl) dX8_init_26 (fun q3 => ?_)
  refine zb_widen (k := 3) (n := 2682) (Nat.le_of_ble_eq_true rfl) (Nat.le_of_ble_eq_true rfl) ?_
  show zB X ((h0, .inr (8, [.ref q1, .ref q2, .null, .int 0, .null, .int 0, .null, .int 0, .null, .null, .null, .null, .int 0, .int 0, .null])) :: [(q1, .inl (zYi X 1, 447, .inl (fun _ => 0))), (q2, .inl (zYi X 1, 447, .inl (fun _ => 0))), (q3, .inl (zYi X 1, 1788, .inl (fun _ => 0)))]) 3 2682 28 _ _
  refine zb_putF (fs' := [.ref q1, .ref q2, .ref q3, .int 0, .null, .int 0, .null, .int 0, .null, .null, .null, .null, .int 0, .int 0, .null]) C hI fk_X8_16 (fun _ _ _ h => by cases h; rfl) rfl rfl (Nat.le_of_ble_eq_true rfl) rfl dX8_init_28 ?_
  refine zb_aload_n (i := 0) C dX8_init_31 rfl rfl ?_
  refine zb_sipush (x := 447) C dX8_init_32 (by decide) (by decide) ?_
  refine zb_newa (atype := .int) (ty := .int) (t0 := 0) (N' := 447) C rfl tn_101 (fun _ => rfl) rfl (by decide) rfl (Nat.le_of_ble_eq_true rfl) (Nat.le_of_ble_eq_true rfl) dX8_init_35 (fun q4 => ?_)
  refine zb_widen (k := 4) (n := 3129) (Nat.le_of_ble_eq_true rfl) (Nat.le_of_ble_eq_true rfl) ?_
  show zB X ((h0, .inr (8, [.ref q1, .ref q2, .ref q3, .int 0, .null, .int 0, .null, .int 0, .null, .null, .null, .null, .int 0, .int 0, .null])) :: [(q1, .inl (zYi X 1, 447, .inl (fun _ => 0))), (q2, .inl (zYi X 1, 447, .inl (fun _ => 0))), (q3, .inl (zYi X 1, 1788, .inl (fun _ => 0))), (q4, .inl (zYi X 1, 447, .inl (fun _ => 0)))]) 4 3129 37 _ _
  refine zb_putF (fs' := [.ref q1, .ref q2, .ref q3, .int 0, .ref q4, .int 0, .null, .int 0, .null, .null, .null, .null, .int 0, .int 0, .null]) C hI fk_X8_19 (fun _ _ _ h => by cases h; rfl) rfl rfl (Nat.le_of_ble_eq_true rfl) rfl dX8_init_37 ?_
  refine zb_aload_n (i := 0) C dX8_init_40 rfl rfl ?_
  refine zb_bipush (x := 60) C dX8_init_41 (by decide) (by decide) ?_
  refine zb_newa (atype := .int) (ty := .int) (t0 := 0) (N' := 60) C rfl tn_101 (fun _ => rfl) rfl (by decide) rfl (Nat.le_of_ble_eq_true rfl) (Nat.le_of_ble_eq_true rfl) dX8_init_43 (fun q5 => ?_)
  refine zb_widen (k := 5) (n := 3189) (Nat.le_of_ble_eq_true rfl) (Nat.le_of_ble_eq_true rfl) ?_
  show zB X ((h0, .inr (8, [.ref q1, .ref q2, .ref q3, .int 0, .ref q4, .int 0, .null, .int 0, .null, .null, .null, .null, .int 0, .int 0, .null])) :: [(q1, .inl (zYi X 1, 447, .inl (fun _ => 0))), (q2, .inl (zYi X 1, 447, .inl (fun _ => 0))), (q3, .inl (zYi X 1, 1788, .inl (fun _ => 0))), (q4, .inl (zYi X 1, 447, .inl (fun _ => 0))), (q5, .inl (zYi X 1, 60, .inl (fun _ => 0)))]) 5 3189 45 _ _
  refine zb_putF (fs' := [.ref q1, .ref q2, .ref q3, .int 0, .ref q4, .int 0, .ref q5, .int 0, .null, .null, .null, .null, .int 0, .int 0, .null]) C hI fk_X8_22 (fun _ _ _ h => by cases h; rfl) rfl rfl (Nat.le_of_ble_eq_true rfl) rfl dX8_init_45 ?_
  refine zb_aload_n (i := 0) C dX8_init_48 rfl rfl ?_
  refine zb_bipush (x := 40) C dX8_init_49 (by decide) (by decide) ?_
  refine zb_newa (atype := .int) (ty := .int) (t0 := 0) (N' := 40) C rfl tn_101 (fun _ => rfl) rfl (by decide) rfl (Nat.le_of_ble_eq_true rfl) (Nat.le_of_ble_eq_true rfl) dX8_init_51 (fun q6 => ?_)
  refine zb_widen (k := 6) (n := 3229) (Nat.le_of_ble_eq_true rfl) (Nat.le_of_ble_eq_true rfl) ?_
  show zB X ((h0, .inr (8, [.ref q1, .ref q2, .ref q3, .int 0, .ref q4, .int 0, .ref q5, .int 0, .null, .null, .null, .null, .int 0, .int 0, .null])) :: [(q1, .inl (zYi X 1, 447, .inl (fun _ => 0))), (q2, .inl (zYi X 1, 447, .inl (fun _ => 0))), (q3, .inl (zYi X 1, 1788, .inl (fun _ => 0))), (q4, .inl (zYi X 1, 447, .inl (fun _ => 0))), (q5, .inl (zYi X 1, 60, .inl (fun _ => 0))), (q6, .inl (zYi X 1, 40, .inl (fun _ => 0)))]) 6 3229 53 _ _
  refine zb_putF (fs' := [.ref q1, .ref q2, .ref q3, .int 0, .ref q4, .int 0, .ref q5, .int 0, .ref q6, .null, .null, .null, .int 0, .int 0, .null]) C hI fk_X8_25 (fun _ _ _ h => by cases h; rfl) rfl rfl (Nat.le_of_ble_eq_true rfl) rfl dX8_init_53 ?_
  refine zb_aload_n (i := 0) C dX8_init_56 rfl rfl ?_
  refine zb_sipush (x := 900) C dX8_init_57 (by decide) (by decide) ?_
  refine zb_newa (atype := .boolean) (ty := .boolean) (t0 := 2) (N' := 900) C rfl tn_799 (fun _ => rfl) rfl (by decide) rfl (Nat.le_of_ble_eq_true rfl) (Nat.le_of_ble_eq_true rfl) dX8_init_60 (fun q7 => ?_)
  refine zb_widen (k := 7) (n := 4129) (Nat.le_of_ble_eq_true rfl) (Nat.le_of_ble_eq_true rfl) ?_
  show zB X ((h0, .inr (8, [.ref q1, .ref q2, .ref q3, .int 0, .ref q4, .int 0, .ref q5, .int 0, .ref q6, .null, .null, .null, .int 0, .int 0, .null])) :: [(q1, .inl (zYi X 1, 447, .inl (fun _ => 0))), (q2, .inl (zYi X 1, 447, .inl (fun _ => 0))), (q3, .inl (zYi X 1, 1788, .inl (fun _ => 0))), (q4, .inl (zYi X 1, 447, .inl (fun _ => 0))), (q5, .inl (zYi X 1, 60, .inl (fun _ => 0))), (q6, .inl (zYi X 1, 40, .inl (fun _ => 0))), (q7, .inl (zYi X 3, 900, .inl (fun _ => 0)))]) 7 4129 62 _ _
  refine zb_putF (fs' := [.ref q1, .ref q2, .ref q3, .int 0, .ref q4, .int 0, .ref q5, .int 0, .ref q6, .ref q7, .null, .null, .int 0, .int 0, .null]) C hI fk_X8_28 (fun _ _ _ h => by cases h; rfl) rfl rfl (Nat.le_of_ble_eq_true rfl) rfl dX8_init_62 ?_
  refine zb_aload_n (i := 0) C dX8_init_65 rfl rfl ?_
  refine zb_bipush (x := 30) C dX8_init_66 (by decide) (by decide) ?_
  refine zb_newa (atype := .int) (ty := .int) (t0 := 0) (N' := 30) C rfl tn_101 (fun _ => rfl) rfl (by decide) rfl (Nat.le_of_ble_eq_true rfl) (Nat.le_of_ble_eq_true rfl) dX8_init_68 (fun q8 => ?_)
  refine zb_widen (k := 8) (n := 4159) (Nat.le_of_ble_eq_true rfl) (Nat.le_of_ble_eq_true rfl) ?_
  show zB X ((h0, .inr (8, [.ref q1, .ref q2, .ref q3, .int 0, .ref q4, .int 0, .ref q5, .int 0, .ref q6, .ref q7, .null, .null, .int 0, .int 0, .null])) :: [(q1, .inl (zYi X 1, 447, .inl (fun _ => 0))), (q2, .inl (zYi X 1, 447, .inl (fun _ => 0))), (q3, .inl (zYi X 1, 1788, .inl (fun _ => 0))), (q4, .inl (zYi X 1, 447, .inl (fun _ => 0))), (q5, .inl (zYi X 1, 60, .inl (fun _ => 0))), (q6, .inl (zYi X 1, 40, .inl (fun _ => 0))), (q7, .inl (zYi X 3, 900, .inl (fun _ => 0))), (q8, .inl (zYi X 1, 30, .inl (fun _ => 0)))]) 8 4159 70 _ _
  refine zb_putF (fs' := [.ref q1, .ref q2, .ref q3, .int 0, .ref q4, .int 0, .ref q5, .int 0, .ref q6, .ref q7, .ref q8, .null, .int 0, .int 0, .null]) C hI fk_X8_32 (fun _ _ _ h => by cases h; rfl) rfl rfl (Nat.le_of_ble_eq_true rfl) rfl dX8_init_70 ?_
  refine zb_aload_n (i := 0) C dX8_init_73 rfl rfl ?_
  refine zb_bipush (x := 30) C dX8_init_74 (by decide) (by decide) ?_
  refine zb_newa (atype := .boolean) (ty := .boolean) (t0 := 2) (N' := 30) C rfl tn_799 (fun _ => rfl) rfl (by decide) rfl (Nat.le_of_ble_eq_true rfl) (Nat.le_of_ble_eq_true rfl) dX8_init_76 (fun q9 => ?_)
  refine zb_widen (k := 9) (n := 4189) (Nat.le_of_ble_eq_true rfl) (Nat.le_of_ble_eq_true rfl) ?_
  show zB X ((h0, .inr (8, [.ref q1, .ref q2, .ref q3, .int 0, .ref q4, .int 0, .ref q5, .int 0, .ref q6, .ref q7, .ref q8, .null, .int 0, .int 0, .null])) :: [(q1, .inl (zYi X 1, 447, .inl (fun _ => 0))), (q2, .inl (zYi X 1, 447, .inl (fun _ => 0))), (q3, .inl (zYi X 1, 1788, .inl (fun _ => 0))), (q4, .inl (zYi X 1, 447, .inl (fun _ => 0))), (q5, .inl (zYi X 1, 60, .inl (fun _ => 0))), (q6, .inl (zYi X 1, 40, .inl (fun _ => 0))), (q7, .inl (zYi X 3, 900, .inl (fun _ => 0))), (q8, .inl (zYi X 1, 30, .inl (fun _ => 0))), (q9, .inl (zYi X 3, 30, .inl (fun _ => 0)))]) 9 4189 78 _ _
  refine zb_putF (fs' := [.ref q1, .ref q2, .ref q3, .int 0, .ref q4, .int 0, .ref q5, .int 0, .ref q6, .ref q7, .ref q8, .ref q9, .int 0, .int 0, .null]) C hI fk_X8_35 (fun _ _ _ h => by cases h; rfl) rfl rfl (Nat.le_of_ble_eq_true rfl) rfl dX8_init_78 ?_
  refine zb_aload_n (i := 0) C dX8_init_81 rfl rfl ?_
  refine zb_bipush (x := 30) C dX8_init_82 (by decide) (by decide) ?_
  refine zb_newa (atype := .int) (ty := .int) (t0 := 0) (N' := 30) C rfl tn_101 (fun _ => rfl) rfl (by decide) rfl (Nat.le_of_ble_eq_true rfl) (Nat.le_of_ble_eq_true rfl) dX8_init_84 (fun q10 => ?_)
  refine zb_widen (k := 10) (n := 4219) (Nat.le_of_ble_eq_true rfl) (Nat.le_of_ble_eq_true rfl) ?_
  show zB X ((h0, .inr (8, [.ref q1, .ref q2, .ref q3, .int 0, .ref q4, .int 0, .ref q5, .int 0, .ref q6, .ref q7, .ref q8, .ref q9, .int 0, .int 0, .null])) :: [(q1, .inl (zYi X 1, 447, .inl (fun _ => 0))), (q2, .inl (zYi X 1, 447, .inl (fun _ => 0))), (q3, .inl (zYi X 1, 1788, .inl (fun _ => 0))), (q4, .inl (zYi X 1, 447, .inl (fun _ => 0))), (q5, .inl (zYi X 1, 60, .inl (fun _ => 0))), (q6, .inl (zYi X 1, 40, .inl (fun _ => 0))), (q7, .inl (zYi X 3, 900, .inl (fun _ => 0))), (q8, .inl (zYi X 1, 30, .inl (fun _ => 0))), (q9, .inl (zYi X 3, 30, .inl (fun _ => 0))), (q10, .inl (zYi X 1, 30, .inl (fun _ => 0)))]) 10 4219 86 _ _
  refine zb_putF (fs' := [.ref q1, .ref q2, .ref q3, .int 0, .ref q4, .int 0, .ref q5, .int 0, .ref q6, .ref q7, .ref q8, .ref q9, .int 0, .int 0, .ref q10]) C hI fk_X8_38 (fun _ _ _ h => by cases h; rfl) rfl rfl (Nat.le_of_ble_eq_true rfl) rfl dX8_init_86 ?_
  obtain ⟨ad, had⟩ : ∃ ad : Nat → Nat, ad = (fun i => ([h0, q1, q2, q3, q4, q5, q6, q7, q8, q9, q10] : List Nat).getD i 0) := ⟨_, rfl⟩
  have hw : ((h0, .inr (8, [.ref q1, .ref q2, .ref q3, .int 0, .ref q4, .int 0, .ref q5, .int 0, .ref q6, .ref q7, .ref q8, .ref q9, .int 0, .int 0, .ref q10])) :: [(q1, .inl (zYi X 1, 447, .inl (fun _ => 0))), (q2, .inl (zYi X 1, 447, .inl (fun _ => 0))), (q3, .inl (zYi X 1, 1788, .inl (fun _ => 0))), (q4, .inl (zYi X 1, 447, .inl (fun _ => 0))), (q5, .inl (zYi X 1, 60, .inl (fun _ => 0))), (q6, .inl (zYi X 1, 40, .inl (fun _ => 0))), (q7, .inl (zYi X 3, 900, .inl (fun _ => 0))), (q8, .inl (zYi X 1, 30, .inl (fun _ => 0))), (q9, .inl (zYi X 3, 30, .inl (fun _ => 0))), (q10, .inl (zYi X 1, 30, .inl (fun _ => 0)))] : va_W) = zW (zYi X) ad (fun _ _ => 0) shM := by rw [had]; rfl
  show zB X ((h0, .inr (8, [.ref q1, .ref q2, .ref q3, .int 0, .ref q4, .int 0, .ref q5, .int 0, .ref q6, .ref q7, .ref q8, .ref q9, .int 0, .int 0, .ref q10])) :: [(q1, .inl (zYi X 1, 447, .inl (fun _ => 0))), (q2, .inl (zYi X 1, 447, .inl (fun _ => 0))), (q3, .inl (zYi X 1, 1788, .inl (fun _ => 0))), (q4, .inl (zYi X 1, 447, .inl (fun _ => 0))), (q5, .inl (zYi X 1, 60, .inl (fun _ => 0))), (q6, .inl (zYi X 1, 40, .inl (fun _ => 0))), (q7, .inl (zYi X 3, 900, .inl (fun _ => 0))), (q8, .inl (zYi X 1, 30, .inl (fun _ => 0))), (q9, .inl (zYi X 3, 30, .inl (fun _ => 0))), (q10, .inl (zYi X 1, 30, .inl (fun _ => 0)))]) _ _ _ _ _
  rw [hw]
  have h0a : zr h0 = zr (ad 0) := by rw [had]; rfl
  have loop : ∀ (n k : Nat) (M : zM), n + k = 200 → zRM M → mlI k M → zB X (zW (zYi X) ad M shM) 10 4219 91 [some (zr (ad 0)), some (zi k)] [] := by
    intro n
    induction n with
    | zero =>
      intro k M hk hM hI
      have ek : k = 200 := by omega
      subst ek
      refine zb_iload_n (i := 1) C dX8_init_91 rfl rfl ?_
      refine zb_sipush (x := 200) C dX8_init_92 (by decide) (by decide) ?_
      refine zb_icmp_ge (tgt := 115) C dX8_init_95 rfl (fun h => ?_) (fun h => absurd (by decide) h)
      refine zb_aload_n (i := 0) C dX8_init_115 rfl rfl ?_
      refine zb_getrW (i := 0) (j := 1) C rfl fk_X8_7 rfl dX8_init_116 ?_
      refine zb_sipush (x := 443) C dX8_init_119 (by decide) (by decide) ?_
      refine zb_bipush (x := 60) C dX8_init_122 (by decide) (by decide) ?_
      refine zb_iastW (i := 1) (n := 447) C rfl (by decide) (by decide) dX8_init_124 ?_
      exact E ad _ _ _ _ _ (by rw [had]; rfl) (zup_rm hM (by decide)) (mlI_e hI) (Nat.le_of_ble_eq_true rfl) (Nat.le_of_ble_eq_true rfl) dX8_init_125
    | succ n ih =>
      intro k M hk hM hI
      refine zb_iload_n (i := 1) C dX8_init_91 rfl rfl ?_
      refine zb_sipush (x := 200) C dX8_init_92 (by decide) (by decide) ?_
      refine zb_icmp_ge (tgt := 115) C dX8_init_95 rfl (fun h => by omega) (fun h => ?_)
      refine zb_aload_n (i := 0) C dX8_init_98 rfl rfl ?_
      refine zb_getrW (i := 0) (j := 1) C rfl fk_X8_7 rfl dX8_init_99 ?_
      refine zb_sipush (x := 242) C dX8_init_102 (by decide) (by decide) ?_
      refine zb_iload_n (i := 1) C dX8_init_105 rfl rfl ?_
      refine zb_iadd C dX8_init_106 (by omega) ?_
      refine zb_iconst (x := 2) C dX8_init_107 (by decide) (by decide) ?_
      refine zb_iastW (i := 1) (n := 447) C rfl (by omega) (by omega) dX8_init_108 ?_
      refine zb_iinc (y := ((k + 1 : Nat) : Int)) (lv' := [some (zr (ad 0)), some (zi ((k + 1 : Nat) : Int))]) C dX8_init_109 rfl (by omega) ⟨by omega, by omega⟩ rfl ?_
      refine zb_goto (tgt := 91) C dX8_init_112 rfl ?_
      exact ih (k + 1) _ (by omega) (zup_rm hM (by decide)) (by rw [show ((k + 1 : Nat) : Int) = (k : Int) + 1 by omega]; exact mlI_s (by omega) hI)
  refine zb_iconst (x := 0) C dX8_init_89 (by decide) (by decide) ?_
  rw [h0a]
  refine zb_istore_n (i := 1) (lv' := [some (zr (ad 0)), some (zi 0)]) C dX8_init_90 rfl (Nat.le_of_ble_eq_true rfl) rfl ?_
  exact loop 200 0 _ rfl (fun _ _ => by decide) ⟨fun j j0 j1 => by omega, fun _ _ => rfl, fun _ _ _ => rfl⟩
