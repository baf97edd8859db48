/-! printed by gen/law2.py: the walk of the law (between two passages of the kit's skeleton) -/
theorem tn_1 : (Jvm.Cond.initialized "BarStrips") ∈ lw_g := lw_g_in (lw_t_in (List.mem_of_getElem? (i := 1) (by decide +kernel))) rfl
theorem tn_12 : (Jvm.Cond.classLink "BarStripsLaw" (9 : Nat) "BarStrips") ∈ lw_g := lw_g_in (lw_t_in (List.mem_of_getElem? (i := 12) (by decide +kernel))) rfl
theorem tn_13 : (Jvm.Cond.instantiable "BarStrips" (10 : Nat)) ∈ lw_g := lw_g_in (lw_t_in (List.mem_of_getElem? (i := 13) (by decide +kernel))) rfl
theorem tn_14 : (Jvm.Cond.methodLink "BarStripsLaw" (93 : Nat) ({ cls := "BarStrips", name := "<init>", desc := "()V" } : Jvm.MethodName)) ∈ lw_g := lw_g_in (lw_t_in (List.mem_of_getElem? (i := 14) (by decide +kernel))) rfl
theorem tn_15 : (Jvm.Cond.instanceMethod ({ cls := "BarStrips", name := "<init>", desc := "()V" } : Jvm.MethodName)) ∈ lw_g := lw_g_in (lw_t_in (List.mem_of_getElem? (i := 15) (by decide +kernel))) rfl
theorem tn_16 : (Jvm.Cond.code ({ cls := "BarStrips", name := "<init>", desc := "()V" } : Jvm.MethodName) prog_1_method_1_code (1 : Nat) (Option.none : Option Jvm.ClassFile.FieldType)) ∈ lw_g := lw_g_in (lw_t_in (List.mem_of_getElem? (i := 16) (by decide +kernel))) rfl
theorem nk_L_9 : zNk "BarStripsLaw" 9 RX7 TX7 10 7 fsX7 := ⟨tn_12, tn_13, tn_1, inX7, rfl, tyX7, tyX7_ok, fun j hj => by rcases (show j = 0 ∨ j = 1 ∨ j = 2 ∨ j = 3 ∨ j = 4 ∨ j = 5 ∨ j = 6 ∨ j = 7 ∨ j = 8 ∨ j = 9 by omega) with rfl | rfl | rfl | rfl | rfl | rfl | rfl | rfl | rfl | rfl <;> rfl⟩
theorem zc_L_93 : zCb "BarStripsLaw" 93 yX7_init cX7_init 1 none 0 := ⟨tn_14, tn_1, tn_16, by decide +kernel⟩
theorem tw_13 : (Jvm.Cond.instantiable "BarStrips" (10 : Nat)) ∈ lw_tbl := lw_t_in (List.mem_of_getElem? (i := 13) (by decide +kernel))
theorem tw_21 : (Jvm.Cond.instantiable "BarStrips$Chart" (14 : Nat)) ∈ lw_tbl := lw_t_in (List.mem_of_getElem? (i := 21) (by decide +kernel))
theorem tw_100 : (Jvm.Cond.arrayClass Jvm.ClassFile.FieldType.int) ∈ lw_tbl := lw_t_in (List.mem_of_getElem? (i := 100) (by decide +kernel))
theorem tw_102 : (Jvm.Cond.instantiable "BarStrips$History" (3 : Nat)) ∈ lw_tbl := lw_t_in (List.mem_of_getElem? (i := 102) (by decide +kernel))
theorem tw_108 : (Jvm.Cond.arrayOver (Jvm.ClassFile.FieldType.object "BarStrips$Chart")) ∈ lw_tbl := lw_t_in (List.mem_of_getElem? (i := 108) (by decide +kernel))
theorem tw_122 : (Jvm.Cond.instantiable "BarStrips$PartsText" (9 : Nat)) ∈ lw_tbl := lw_t_in (List.mem_of_getElem? (i := 122) (by decide +kernel))
theorem tw_123 : (Jvm.Cond.methodLinkNest "BarStrips" (31 : Nat) ({ cls := "BarStrips$PartsText", name := "<init>", desc := "()V" } : Jvm.MethodName) "BarStrips") ∈ lw_tbl := lw_t_in (List.mem_of_getElem? (i := 123) (by decide +kernel))
theorem tw_151 : (Jvm.Cond.arrayClass Jvm.ClassFile.FieldType.char) ∈ lw_tbl := lw_t_in (List.mem_of_getElem? (i := 151) (by decide +kernel))
theorem tw_153 : (Jvm.Cond.instantiable "BarStrips$Pushes" (3 : Nat)) ∈ lw_tbl := lw_t_in (List.mem_of_getElem? (i := 153) (by decide +kernel))
theorem tw_154 : (Jvm.Cond.methodLinkNest "BarStrips" (38 : Nat) ({ cls := "BarStrips$Pushes", name := "<init>", desc := "()V" } : Jvm.MethodName) "BarStrips") ∈ lw_tbl := lw_t_in (List.mem_of_getElem? (i := 154) (by decide +kernel))
theorem tw_171 : (Jvm.Cond.instantiable "BarStrips$Drawing" (3 : Nat)) ∈ lw_tbl := lw_t_in (List.mem_of_getElem? (i := 171) (by decide +kernel))
theorem tw_172 : (Jvm.Cond.methodLinkNest "BarStrips" (45 : Nat) ({ cls := "BarStrips$Drawing", name := "<init>", desc := "()V" } : Jvm.MethodName) "BarStrips") ∈ lw_tbl := lw_t_in (List.mem_of_getElem? (i := 172) (by decide +kernel))
theorem tw_190 : (Jvm.Cond.instantiable "BarStrips$Cutting" (2 : Nat)) ∈ lw_tbl := lw_t_in (List.mem_of_getElem? (i := 190) (by decide +kernel))
theorem tw_191 : (Jvm.Cond.methodLinkNest "BarStrips" (52 : Nat) ({ cls := "BarStrips$Cutting", name := "<init>", desc := "()V" } : Jvm.MethodName) "BarStrips") ∈ lw_tbl := lw_t_in (List.mem_of_getElem? (i := 191) (by decide +kernel))
theorem tw_205 : (Jvm.Cond.instantiable "BarStrips$SwapSearch" (4 : Nat)) ∈ lw_tbl := lw_t_in (List.mem_of_getElem? (i := 205) (by decide +kernel))
theorem tw_206 : (Jvm.Cond.methodLinkNest "BarStrips" (59 : Nat) ({ cls := "BarStrips$SwapSearch", name := "<init>", desc := "()V" } : Jvm.MethodName) "BarStrips") ∈ lw_tbl := lw_t_in (List.mem_of_getElem? (i := 206) (by decide +kernel))
theorem tw_472 : (Jvm.Cond.methodLinkNest "BarStrips$Chart" (67 : Nat) ({ cls := "BarStrips", name := "isLane", desc := "(I)Z" } : Jvm.MethodName) "BarStrips") ∈ lw_tbl := lw_t_in (List.mem_of_getElem? (i := 472) (by decide +kernel))
theorem tw_475 : (Jvm.Cond.methodLinkNest "BarStrips$Chart" (71 : Nat) ({ cls := "BarStrips", name := "isDay", desc := "(I)Z" } : Jvm.MethodName) "BarStrips") ∈ lw_tbl := lw_t_in (List.mem_of_getElem? (i := 475) (by decide +kernel))
theorem z_arr_int {args : Array Value} {s : State} (h : (Cond.arrayClass .int).before args s = true) : ∃ cA : ClassId, ArrOfT s cA .int ∧ va_RA s cA .int := by
  obtain ⟨cA, kA, comp, h1, h2, h3⟩ := Cond.arrayClass_spec h
  exact ⟨cA, fun n z => ⟨fun k h => (by cases h), kA, h2, comp, h3⟩, h1⟩
theorem z_arr_char {args : Array Value} {s : State} (h : (Cond.arrayClass .char).before args s = true) : ∃ cA : ClassId, ArrOfT s cA .char ∧ va_RA s cA .char := by
  obtain ⟨cA, kA, comp, h1, h2, h3⟩ := Cond.arrayClass_spec h
  exact ⟨cA, fun n z => ⟨fun k h => (by cases h), kA, h2, comp, h3⟩, h1⟩
theorem z_arr_over {args : Array Value} {s : State} (h : (Cond.arrayOver (.object "BarStrips$Chart")).before args s = true) : ∃ cA : ClassId, ArrOfT s cA (.object "BarStrips$Chart") ∧ va_RA s cA (.object "BarStrips$Chart") := by
  obtain ⟨comp, c, k, h1, h2, h3, h4, h5⟩ := Cond.arrayOver_spec h
  exact ⟨c, fun n z => ⟨fun k h => (by cases h), k, h3, comp, h4⟩, ⟨k, comp, h3, h4, h1, h5⟩⟩
/-! THE CLAIM OUT OF ONE WALK OF THE LAW'S BODY. Your part is whole_start (and what it stands on); all else here is the same for every law, but numbers. -/
def R_law : String := "BarStripsLaw"
def lw_P (b : Addr) (xs : List Int32) (args : Array Value) (s : State) : Prop := args = #[.ref b] ∧ s.IntsAt b xs ∧ xs.length ≤ 260 ∧ (Jvm.Cond.and given_1 narrow_1).before args s = true
def lw_Q (_ : Array Value) (s : State) (o : Outcome) (t : State) : Prop := o = .returned (some (.int 1)) ∧ Framed s o t [] 600000 7302250
def lw_Z (below : List Frame) (a : Array Value) (s : State) : State → Prop := fun t => ∃ o, t.status = .running ∧ Ended t below o ∧ lw_Q a s o t
/-- the law's own end, with 1 on the stack, nothing written that was there before, its room as the claim has it -/
theorem lw_ret {p : Program} {l : Launch} {e : Env} {s : State} {m : MethodId} {below : List Frame} {meth : Method} {c : Code} {b : Nat} (hx : p.tables.exec = Jvm.exec) (hb : c.code = code) (hr : meth.sig.returnType = ret) (hlocks : meth.locks = false) {pc : Nat} {H : Heap} {ls : Array Slot} (hdg : decode code pc = .ok (.ireturn, 1)) : W p l e room_1 s m #[Value.ref b] below meth c H [] 600000 7302250 (lw_Z below #[Value.ref b] s) (F0 m pc ls [.int 1]) := by
  intro T hT X
  obtain ⟨fs, hret, hrun, hended, hW, hframe⟩ := X.leave (v := some (.int 1)) (hlocks := hlocks) (fun h => by rw [hr] at h; cases h)
  have hmeth' : T.vm.method? m = some meth := X.method'
  refine ⟨T.setFrames fs, ?_, .returned (some (.int 1)), hrun, hended, rfl, ⟨_, rfl⟩, hW, hframe⟩
  jvm_step X.here [X.here.top, hx, hb, hdg, hmeth', hr, ret, narrow_b1]
  (try refine ⟨rfl, ?_⟩); (try refine ⟨rfl, ?_⟩)
  first | (intro acts; rw [hret _ acts rfl rfl rfl]) | rw [hret _ _ rfl rfl rfl]
  exact Steps.refl _
/-- what holds at the law's entry: the machine, the code, the tables' words (any of lw_tbl by 'hts w (by decide +kernel)'), the script of L ints xs at the cell b, what the Statement gives of the start (any of its parts by flat_of_before) -/
def lw_At (p : Program) (s : State) (m : MethodId) (meth : Method) (c : Code) (b L : Nat) (xs : Nat → Int32) : Prop :=
  p.tables.exec = Jvm.exec ∧ c.code = code ∧ meth.sig.returnType = ret ∧ c.maxLocals = 7 ∧ s.vm.findClass R_law = some m.cls ∧ (∀ w ∈ lw_tbl, w.before #[Value.ref b] s = true) ∧ va_X b L xs s s.heap ∧ b < s.heap.size ∧ meth.locks = false ∧ (Jvm.Cond.and given_1 narrow_1).before #[Value.ref b] s = true
set_option maxRecDepth 100000 in
set_option maxHeartbeats 8000000 in
/-- YOUR PART: from the entry, for every script of at most 260 ints, the law comes to its end with true -/
theorem whole_start {p : Program} {e : Env} {s : State} {m : MethodId} {below : List Frame} {meth : Method} {c : Code} (l : Launch) (hflags : l.flags = flags0) {b L : Nat} {xs : Nat → Int32} (hL : L ≤ 260) (C0 : lw_At p s m meth c b L xs) : W p l e room_1 s m #[Value.ref b] below meth c s.heap [] 0 0 (lw_Z below #[Value.ref b] s) (entryFrame m ([Value.ref b] : List Value).toArray 7) := by
  obtain ⟨hx, hb, hr, hml, hown, hts, hX, hbl, hlocks, hgv⟩ := id C0
  obtain ⟨c0, i0, hKn0⟩ := u_known (C := RX0) (T := TX0) (N := 14) (n := 14) hts (fun q h => (lw_g_of (inX0 q h)).1) (hts _ tw_21)
  obtain ⟨c1, i1, hKn1⟩ := u_known (C := RX1) (T := TX1) (N := 2) (n := 2) hts (fun q h => (lw_g_of (inX1 q h)).1) (hts _ tw_190)
  obtain ⟨c2, i2, hKn2⟩ := u_known (C := RX2) (T := TX2) (N := 3) (n := 3) hts (fun q h => (lw_g_of (inX2 q h)).1) (hts _ tw_171)
  obtain ⟨c3, i3, hKn3⟩ := u_known (C := RX3) (T := TX3) (N := 3) (n := 3) hts (fun q h => (lw_g_of (inX3 q h)).1) (hts _ tw_102)
  obtain ⟨c4, i4, hKn4⟩ := u_known (C := RX4) (T := TX4) (N := 9) (n := 9) hts (fun q h => (lw_g_of (inX4 q h)).1) (hts _ tw_122)
  obtain ⟨c5, i5, hKn5⟩ := u_known (C := RX5) (T := TX5) (N := 3) (n := 3) hts (fun q h => (lw_g_of (inX5 q h)).1) (hts _ tw_153)
  obtain ⟨c6, i6, hKn6⟩ := u_known (C := RX6) (T := TX6) (N := 4) (n := 4) hts (fun q h => (lw_g_of (inX6 q h)).1) (hts _ tw_205)
  obtain ⟨c7, i7, hKn7⟩ := u_known (C := RX7) (T := TX7) (N := 10) (n := 10) hts (fun q h => (lw_g_of (inX7 q h)).1) (hts _ tw_13)
  obtain ⟨D, hKc⟩ : ∃ D : va_G, ∀ (k : Nat) (q : vw_C), vwCl[k]? = some q → u_Kn s q.1 q.2.1 q.2.2 (D.1 k) (D.2 k) := by
    refine ⟨(fun k => ([c0, c1, c2, c3, c4, c5, c6, c7] : List ClassId).getD k c0, fun k => ([i0, i1, i2, i3, i4, i5, i6, i7] : List (Nat → Nat)).getD k i0), ?_⟩
    intro k q hq
    rcases k with _ | _ | _ | _ | _ | _ | _ | _ | k
    · cases hq; exact hKn0
    · cases hq; exact hKn1
    · cases hq; exact hKn2
    · cases hq; exact hKn3
    · cases hq; exact hKn4
    · cases hq; exact hKn5
    · cases hq; exact hKn6
    · cases hq; exact hKn7
    · cases hq
  obtain ⟨d1, e1⟩ := z_arr_int (hts _ tw_100)
  obtain ⟨d2, e2⟩ := z_arr_char (hts _ tw_151)
  have hover := hts _ tw_108
  obtain ⟨d4, e4⟩ := z_arr_over hover
  have hK : va_K D vwCl (zT (fun k => ([d1, d1, d2, d1, d4] : List ClassId).getD k d1)) s := by
    refine ⟨hKc, fun k q hq => ?_⟩
    rcases k with _ | _ | _ | _ | k
    · cases hq; exact e1
    · cases hq; exact e2
    · cases hq; exact e1
    · cases hq; exact e4
    · cases hq
  have hE : zE s := by
    refine ⟨fun q hq => ?_, va_AO.of hover, fun q hq => ?_⟩
    · unfold zNw at hq
      rcases List.mem_cons.mp hq with rfl | hq
      · exact va_Nw.of rfl (hts _ tw_472)
      rcases List.mem_cons.mp hq with rfl | hq
      · exact va_Nw.of rfl (hts _ tw_475)
      exact (List.not_mem_nil hq).elim
    · unfold zNi at hq
      rcases List.mem_cons.mp hq with rfl | hq
      · exact va_Nw.of rfl (hts _ tw_123)
      rcases List.mem_cons.mp hq with rfl | hq
      · exact va_Nw.of rfl (hts _ tw_154)
      rcases List.mem_cons.mp hq with rfl | hq
      · exact va_Nw.of rfl (hts _ tw_172)
      rcases List.mem_cons.mp hq with rfl | hq
      · exact va_Nw.of rfl (hts _ tw_191)
      rcases List.mem_cons.mp hq with rfl | hq
      · exact va_Nw.of rfl (hts _ tw_206)
      exact (List.not_mem_nil hq).elim
  have C : zOc (p, l, e, room_1, s, m, #[Value.ref b], below, meth, c, D, (fun k => ([d1, d1, d2, d1, d4] : List ClassId).getD k d1), (fun q => s.heap.size ≤ q), lw_Z below #[Value.ref b] s) l code 7 "BarStripsLaw" 11 600000 7302250 448 := ⟨rfl, hx, hb, hml, hown, fun q hq => hts q (lw_g_of hq).1, hK, fun q h => h, hE, Nat.le_of_ble_eq_true rfl, Nat.le_of_ble_eq_true rfl, Nat.le_of_ble_eq_true rfl, Nat.le_of_ble_eq_true rfl⟩
  have hXs : zXs (p, l, e, room_1, s, m, #[Value.ref b], below, meth, c, D, (fun k => ([d1, d1, d2, d1, d4] : List ClassId).getD k d1), (fun q => s.heap.size ≤ q), lw_Z below #[Value.ref b] s) b L xs := ⟨hX, hbl, Nat.not_le.mpr hbl⟩
  have hEnd : ∀ ws lv, zB (p, l, e, room_1, s, m, #[Value.ref b], below, meth, c, D, (fun k => ([d1, d1, d2, d1, d4] : List ClassId).getD k d1), (fun q => s.heap.size ≤ q), lw_Z below #[Value.ref b] s) ws 88 3869 134 lv [zi 1] := by
    intro ws lv hV H locs ls hP hD hS hLs
    refine W.widen (k := 600000) (n := 7302250) (Nat.le_of_ble_eq_true rfl) (Nat.le_of_ble_eq_true rfl) ?_
    refine va_forget (fun q hq => hS.2.2 q hq) ?_
    exact lw_ret hx hb hr hlocks dL_law_134
  generalize hXX : ((p, l, e, room_1, s, m, #[Value.ref b], below, meth, c, D, (fun k => ([d1, d1, d2, d1, d4] : List ClassId).getD k d1), (fun q => s.heap.size ≤ q), lw_Z below #[Value.ref b] s) : zY) = X at C hXs hEnd
  have main : zB X [] 0 0 0 [some (zr b), none, none, none, none, none, none] [] := by
    refine zb_newI (pre := []) (ws := []) (root := 70) C nk_L_9 (ini_X7 l) zc_L_93 tn_15 rfl (by decide) (by decide) (Nat.le_of_ble_eq_true rfl) (Nat.le_of_ble_eq_true rfl) rfl (Nat.le_of_ble_eq_true rfl) dL_law_0 dL_law_3 dL_law_4 (fun aX Mx hMx hpx => ?_)
    refine zb_astore_n (i := 1) (lv' := [some (zr b), some (zr (aX 70)), none, none, none, none, none]) C dL_law_7 rfl (Nat.le_of_ble_eq_true rfl) rfl ?_
    rw [List.nil_append]
    refine zb_widen (k := 88) (n := 3869) (Nat.le_of_ble_eq_true rfl) (Nat.le_of_ble_eq_true rfl) ?_
    refine zb_iconst (x := 0) C dL_law_8 (by decide) (by decide) ?_
    refine zb_istore_n (i := 2) (lv' := [some (zr b), some (zr (aX 70)), some (zi ((0 : Nat) : Int)), none, none, none, none]) C dL_law_9 rfl (Nat.le_of_ble_eq_true rfl) rfl ?_
    exact law_loop C hXs hL hEnd 48 0 rfl Mx hMx ((PX_first hpx).up (by omega))
  subst hXX
  have hl := lv_entry ([.ref b]) (n := 7) (Nat.le_of_ble_eq_true rfl)
  rw [lg_entry_eq]
  refine main ⟨fun x hx1 => ?_, fun x hx1 => (List.not_mem_nil hx1).elim, fun d hd => ?_⟩ s.heap [] _ (fun k q h => by cases h) ⟨fun i j p q h => (by cases h), fun k q h => (by cases h)⟩ va_S.rf ⟨hl.1, hl.2.1, fun i v hi => ?_⟩
  · rcases List.mem_cons.mp hx1 with h | h
    · cases h
    · cases (List.mem_replicate (n := 6).mp h).2
  · rcases List.mem_cons.mp hd with h | h
    · cases h
    · cases (List.mem_replicate (n := 6).mp h).2
  · rcases i with _ | i
    · cases hi
      exact hl.2.2 (0, .ref b) List.mem_cons_self
    · have h2 : (List.replicate 6 (none : Option zV))[i]? = some (some v) := hi
      cases (List.mem_replicate.mp (List.mem_of_getElem? h2)).2
