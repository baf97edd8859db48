/-! entering a method, calling one -/
theorem zq_enter {l : Launch} {y : MethodName} {cc : ByteArray} {maxL : Nat} {ret : Option FieldType} {f w : Nat} {shp : zS} {av : List zV} {M : zM} {F : zV → zM → Prop} (lv : List (Option zV)) (hy : plainName y.cls = true) (hav : zNd av = true) (hlen : av.length ≤ maxL) (hlv : lv = av.map some ++ List.replicate (maxL - av.length) none)
    (body : ∀ X : zX, zOK X l cc maxL y.cls ret f w shp F → zG X M 0 lv []) : zMet l y cc maxL ret f w shp av M F := by
  intro hM hav2 D ids ad sz
  refine Met.ofW (cc := cc) (maxL := maxL) (ret := ret) hy rfl ?_
  intro p e s m args below meth c s₁ B hml hv
  obtain ⟨rfl, hsz, hP, hK, hD0, hN⟩ := hv
  have hx := B.exec
  have hb := B.bytes
  have hr := B.returns
  have hts := atoms_spec (ws := Cond.code y cc maxL ret :: lw_g) B.pre
  have hown : s.vm.findClass y.cls = some m.cls := findClass_of_methodNamed B.named
  have hlocks := B.notSynchronized
  subst hsz
  have hsl := z_sl ad av (zNd_of hav)
  have hl := lv_entry (av.map (zcv ad)) (n := maxL) (by rw [hsl, List.length_map]; exact hlen)
  rw [lg_entry_eq]
  have hlenv : lv.length = maxL := by rw [hlv, List.length_append, List.length_map, List.length_replicate]; omega
  have hget : ∀ (i : Nat) (v : zV), lv[i]? = some (some v) → av[i]? = some v := by
    intro i v hi
    rw [hlv] at hi
    by_cases h : i < av.length
    · rw [List.getElem?_append_left (by rw [List.length_map]; exact h), List.getElem?_map] at hi
      cases ha : av[i]? with
      | none => rw [ha] at hi; cases hi
      | some q => rw [ha] at hi; cases hi; rfl
    · rw [List.getElem?_append_right (by rw [List.length_map]; omega)] at hi
      have := List.mem_of_getElem? hi
      cases (List.mem_replicate.mp this).2
  have C : zOK (p, l, e, (headSpec (Cond.code y cc maxL ret :: lw_g) ({ frames := f, cells := 0, slots := 0, locals := w } : Room)).room, s, m, ((av.map (zcv ad)).toArray), below, meth, c, D, ids, ad, shp, va_A (zW ids ad M shp) s.heap.size, F) l cc maxL y.cls ret f w shp F :=
    ⟨rfl, hx, hb, hml, hown, fun q hq => hts q (List.mem_cons_of_mem _ hq), hK, fun M' => zD_all hD0.self M', fun q hq => Or.inr hq, hr, hlocks, rfl, rfl, rfl, hN⟩
  have G := body _ C hM ⟨fun x hx1 => ?_, fun x hx1 => (List.not_mem_nil hx1).elim, fun d hd => ?_⟩ s.heap [] _ hP va_S.rf ⟨?_, hl.2.1, fun i v hi => ?_⟩
  · rw [hr] at G
    exact G
  · obtain ⟨i, hi⟩ := List.getElem?_of_mem hx1
    exact hav2 x (List.mem_of_getElem? (hget i _ hi))
  · obtain ⟨i, hi⟩ := List.getElem?_of_mem hd
    exact zNd_of hav d (List.mem_of_getElem? (hget i _ hi))
  · rw [hlenv]
    exact hl.1
  · have h1 := hget i v hi
    have h2 : i < av.length := (List.getElem?_eq_some_iff.mp h1).1
    rw [hsl]
    rw [List.getElem?_toArray, List.getElem?_append_left (by rw [List.length_map]; exact h2), List.getElem?_map, h1]
    rfl
abbrev zres (ret : Option FieldType) (v : zV) (st : List zV) : List zV := match ret with
  | none => st
  | some _ => v :: st
/-- what a call's place says: it links to y of class CC -/
def zCb (own : String) (idx : Nat) (y : MethodName) (bytes : ByteArray) (maxL : Nat) (ret : Option FieldType) (n : Nat) : Prop :=
  Cond.methodLink own idx y ∈ lw_g ∧ Cond.initialized y.cls ∈ lw_g ∧ Cond.code y bytes maxL ret ∈ lw_g ∧ (y.cls ≠ "java/lang/invoke/MethodHandle" ∧ y.cls ≠ "java/lang/invoke/VarHandle" ∧ (parseMethodDescriptor y.desc).map (fun d => d.parameters.length) = some n)
def zCn (own : String) (idx : Nat) (y : MethodName) (host : String) (bytes : ByteArray) (maxL : Nat) (ret : Option FieldType) (n : Nat) : Prop :=
  Cond.methodLinkNest own idx y host ∈ zNw ∧ Cond.initialized y.cls ∈ lw_g ∧ Cond.code y bytes maxL ret ∈ lw_g ∧ (y.cls ≠ "java/lang/invoke/MethodHandle" ∧ y.cls ≠ "java/lang/invoke/VarHandle" ∧ (parseMethodDescriptor y.desc).map (fun d => d.parameters.length) = some n)
theorem z_good {y : MethodName} {bytes : ByteArray} {maxL : Nat} {ret : Option FieldType} (h : Cond.code y bytes maxL ret ∈ lw_g) : GoodIn lw_g (Cond.code y bytes maxL ret :: lw_g) := by
  intro q hq
  have hq2 : q ∈ lw_g := (List.mem_cons.mp hq).elim (fun e => e ▸ h) id
  exact ⟨hq2, good_of_word (lw_g_of hq2).2⟩
section ZQ
variable {X : zX} {l : Launch} {cc : ByteArray} {nL : Nat} {own : String} {ret : Option FieldType} {f w : Nat} {shp : zS} {F : zV → zM → Prop} {M : zM} {pc : Nat} {lv lv' : List (Option zV)} {st : List zV}
theorem z_after {p : Program} {l : Launch} {e : Env} {R : Room} {s : State} {m : MethodId} {args : Array Value} {below : List Frame} {meth : Method} {c : Code} {H : Heap} {locs : List Loc} {Q : State → Prop} {ls : Array Slot} {D : va_G} {ids : Nat → ClassId} {ad : Nat → Nat} {A : Nat → Prop} {ret' : Option FieldType} {F' : zV → zM → Prop} {st0 rest : List Value} {a : Array Value}
    (hr : va_Run p l e R s m args below meth c H locs 0 0 0 0 (F0 m pc ls st0) rest (zPost ids ad D shp ret' (va_A (zW ids ad M shp) H.size) F' a) (va_A (zW ids ad M shp) H.size)) (hS : va_S A s.heap H locs) (hD : va_D A (zW ids ad M shp)) (hA : ∀ q, s.heap.size ≤ q → A q)
    (kk : ∀ (v : zV) (M' : zM) (H1 : Heap) (locs1 : List Loc), (∀ x, v = zi x → i32 x) → zRM M' → F' v M' → va_P D vwCl (zW ids ad M' shp) H1 → va_S A s.heap H1 locs1 → W p l e R s m args below meth c H1 locs1 0 0 Q (F0 m (pc + 3) ls ((zrv ad ret' v).toList ++ rest))) : W p l e R s m args below meth c H locs 0 0 Q (F0 m pc ls st0) := by
  have hf : ∀ q, va_A (zW ids ad M shp) H.size q → A q := by
    intro q hq
    rcases hq with ⟨k, e, hk⟩ | hq
    · exact hD.2 k _ hk
    · exact hA q (Nat.le_trans hS.1 hq)
  intro T hT X
  obtain ⟨v, st₀, t, T', L, h0, X', hL, e1, e2, ⟨⟨z, M', hv, hz1, hM', hF', hP'⟩, hz, hk⟩, st⟩ := hr T hT X
  cases hv
  rw [h0] at hz hk
  obtain ⟨t2, a1, b1⟩ := kk z M' T'.heap (locs ++ L) hz1 hM' hF' (by rw [e1]; exact hP') ⟨Nat.le_trans hS.1 (by rw [e1]; exact hz), fun q h1 h2 => by rw [e1, hk q (Nat.lt_of_lt_of_le h1 hS.1) (fun z => h2 (hf q z))]; exact hS.2.1 q h1 h2, fun q hq => by
      rcases List.mem_append.mp hq with h | h
      · exact hS.2.2 q h
      · exact hf _ (hL q h)⟩ T' rfl X'
  exact ⟨t2, st t2 a1, b1⟩
theorem z_blind {av : List Value} {D : va_G} {ids : Nat → ClassId} {ad : Nat → Nat} {sz : Nat} : FrameBlind (va_Pc av (fun U => U.heap.size = sz ∧ va_P D vwCl (zW ids ad M shp) U.heap ∧ va_K D vwCl (zT ids) U ∧ va_D (fun _ => True) (zW ids ad M shp) ∧ zN U)) := fun a U g mk q => by
  obtain ⟨q0, q1, qP, qK, qD, qN⟩ := q
  exact ⟨q0, q1, qP, va_K.moved (u := U) (U := U.calling g mk a) (Vm.Alike.refl U.vm) qK, qD, zN.same (u := U) (U := U.calling g mk a) rfl qN⟩
theorem z_ranges {lv : List (Option zV)} {st As : List zV} (h : zRV lv st) (hs : ∀ v ∈ As, v ∈ st) : ∀ x, Sum.inl x ∈ As → i32 x := fun x hx => h.2.1 x (hs _ hx)
/-- invokevirtual of a method that answers (or not): the stack behind it is 'res' -/
theorem zq_callV (C : zOK X l cc nL own ret f w shp F) {i idx ci n maxL f' w' : Nat} {y : MethodName} {bytes : ByteArray} {ret' : Option FieldType} {F' : zV → zM → Prop} {As st0 : List zV} {fl : List (Option Nat)} {T : u_T} {N : Nat} (hm : zMet l y bytes maxL ret' f' w' shp (zr i :: As) M F') (hc : zCb own idx y bytes maxL ret' n) (hv : Cond.instanceMethod y ∈ lw_g ∧ Cond.selects y.cls y y ∈ lw_g) (hn : As.length = n) (hs : shp[i]? = some (0, ci, fl)) (hci : vwCl[ci]? = some (y.cls, T, N)) (hroom : f' + 1 ≤ f ∧ 8 + (maxL + 11) + w' ≤ w) (hst : st0 = As.reverse ++ zr i :: st) (hlv : lv.length = nL) (h8 : zcs st ≤ 8) (d : decode cc pc = .ok (.invokevirtual idx, 3))
    (kk : ∀ (v : zV) (M' : zM), (∀ x, v = zi x → i32 x) → F' v M' → zG X M' (pc + 3) lv (zres ret' v st)) : zG X M pc lv st0 := by
  obtain ⟨p, l', e, R, s, m, args, below, meth, c, D, ids, ad, shp', A, F0'⟩ := X
  obtain ⟨rfl, hx, hb, hml, hown, hts, hK, hD, hA, hr, hlk, hR, rfl, rfl, hN⟩ := C
  intro hM hV H locs ls hP hS hL
  subst hst
  obtain ⟨c1, c2, c3, c4⟩ := hc
  have hra : ∀ x, Sum.inl x ∈ (zr i :: As) → i32 x := by
    intro x hx1
    rcases List.mem_cons.mp hx1 with h1 | h1
    · cases h1
    · exact hV.2.1 x (List.mem_append_left _ (List.mem_reverse.mpr h1))
  have hmet := hm hM hra D ids ad H.size
  have hcell := va_recv hK hP hci (zW_get (ids := ids) (ad := ad) (M := M) hs)
  refine z_after (ret' := ret') (F' := F') (va_runV (As := As.map (zcv ad)) (rest := st.map (zcv ad)) (b := ad i) (own := own) (nL := nL) (C := y.cls) ⟨hx, hb, hml, hown, hts⟩ hmet ⟨callB_of n hts (z_good c3) rfl rfl rfl (hts _ c2) (hts _ c1) c4 (by rw [hR]; exact hroom), hts _ hv.1, hts _ hv.2⟩ ⟨z_blind, hcell, fun U hU hW => ⟨rfl, by rw [hU], by rw [hU]; exact hP, va_K.moved hW.alike hK, (hD M).weaken (fun _ _ _ _ => trivial), hN.warm hW⟩⟩ rfl (by rw [List.length_map]; exact hn) (hL.1.trans hlv) (by show List.map (zcv ad) _ = _; simp [zcv]) (lv_room (by rw [zcs_eq]; exact h8)) d ⟨by rw [hR]; exact Nat.le_refl _, by rw [hR]; exact Nat.le_refl _⟩) hS (hD M) hA (fun v M' H1 locs1 hz hM' hF' hP1 hS1 => ?_)
  have hV' : zRV lv st := zRV_sub hV (fun q hq => List.mem_append_right _ (List.mem_cons_of_mem _ hq))
  have k2 := kk v M' hz hF'
  cases ret' with
  | none => exact k2 hM' hV' H1 locs1 ls hP1 hS1 hL
  | some ty =>
    refine k2 hM' (zRV_push hV' (fun q hq => ?_)) H1 locs1 ls hP1 hS1 hL
    rcases List.mem_cons.mp hq with rfl | h1
    · rcases q with x | j | dd
      · exact Or.inr (Or.inl ⟨x, rfl, hz x rfl⟩)
      · exact Or.inr (Or.inr (Or.inl ⟨j, rfl⟩))
      · exact Or.inr (Or.inr (Or.inr ⟨dd, rfl⟩))
    · exact Or.inl h1
end ZQ
