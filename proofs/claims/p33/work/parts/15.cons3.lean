/-! constructors: contracts, entering, calling; methods called over a part of the world -/
def zIni (l : Launch) (y : MethodName) (cc : ByteArray) (maxL f kc ks w ci : Nat) (fs : List Value) (root : Nat) (shp : zS) (post : zM → Prop) : Prop :=
  ∀ (D : va_G) (ids : Nat → ClassId) (h0 sz : Nat), Met l y (.code y cc maxL none :: lw_g) ({ frames := f, cells := kc, slots := ks, locals := w } : Room)
    (va_Pc [.ref h0] (fun U => U.heap.size = sz ∧ va_P D vwCl [(h0, .inr (ci, fs))] U.heap ∧ va_K D vwCl (zT ids) U ∧ va_D (fun _ => True) [(h0, .inr (ci, fs))] ∧ zE U))
    (va_Qv (fun u : (Nat → Nat) × zM => u.1 root = h0 ∧ zRM u.2 ∧ post u.2) (fun u t => va_P D vwCl (zW ids u.1 u.2 shp) t.heap ∧ va_D (va_A [(h0, .inr (ci, fs))] sz) (zW ids u.1 u.2 shp)) (va_A [(h0, .inr (ci, fs))] sz)) kc ks (va_A [(h0, .inr (ci, fs))] sz)
def zEnd (X : zY) (h0 root kc ks : Nat) (shp : zS) (post : zM → Prop) (cc : ByteArray) : Prop :=
  ∀ (a : Nat → Nat) (M : zM) (ck sn pc : Nat) (lv : List (Option zV)), a root = h0 → zRM M → post M → ck ≤ kc → sn ≤ ks → decode cc pc = .ok (.return_, 1) → zB X (zW (zYi X) a M shp) ck sn pc lv []
theorem zb_enter {l : Launch} {y : MethodName} {cc : ByteArray} {maxL f kc ks w ci root : Nat} {fs : List Value} {shp : zS} {post : zM → Prop} (hy : plainName y.cls = true) (hini : y.name = "<init>") (hm : 1 ≤ maxL) (body : ∀ (X : zY) (h0 : Nat), zOc X l cc maxL y.cls f kc ks w → zYn X → zEnd X h0 root kc ks shp post cc → zB X [(h0, .inr (ci, fs))] 0 0 0 (some (zr h0) :: List.replicate (maxL - 1) none) []) : zIni l y cc maxL f kc ks w ci fs root shp post := by
  intro D ids h0 sz
  refine Met.ofW (cc := cc) (maxL := maxL) (ret := none) hy rfl ?_
  intro p e s m args below meth c s₁ B hml hv
  obtain ⟨rfl, hsz, hP, hK, hD0, hE⟩ := hv
  have hx := B.exec
  have hb := B.bytes
  have hr := B.returns
  have hts := atoms_spec (ws := Cond.code y cc maxL none :: lw_g) B.pre
  have hown : s.vm.findClass y.cls = some m.cls := findClass_of_methodNamed B.named
  have hlocks := B.notSynchronized
  have hin : meth.name = "<init>" := (name_of_methodNamed B.named B.method).1.trans hini
  subst hsz
  have hl := lv_entry ([.ref h0]) (n := maxL) (by show 1 ≤ maxL; exact hm)
  rw [lg_entry_eq]
  have E : zEnd (p, l, e, (headSpec (Cond.code y cc maxL none :: lw_g) ({ frames := f, cells := kc, slots := ks, locals := w } : Room)).room, s, m, ([Value.ref h0] : List Value).toArray, below, meth, c, D, ids, va_A [(h0, .inr (ci, fs))] s.heap.size, MQ below (va_Qv (fun u : (Nat → Nat) × zM => u.1 root = h0 ∧ zRM u.2 ∧ post u.2) (fun u t => va_P D vwCl (zW ids u.1 u.2 shp) t.heap ∧ va_D (va_A [(h0, .inr (ci, fs))] s.heap.size) (zW ids u.1 u.2 shp)) (va_A [(h0, .inr (ci, fs))] s.heap.size)) ([Value.ref h0] : List Value).toArray s kc ks (va_A [(h0, .inr (ci, fs))] s.heap.size)) h0 root kc ks shp post cc := by
    intro a M ck sn pc lv hroot hM hpost h1 h2 hd hV H locs ls hP1 hD1 hS1 hL1
    refine W.widen h1 h2 ?_
    exact W.vret hx hb hr (fun t ht hW => ⟨⟨(a, M), rfl, ⟨hroot, hM, hpost⟩, by rw [ht]; exact hP1, hD1⟩, hS1.F ht⟩) hS1.2.2 hd
  have C : zOc (p, l, e, (headSpec (Cond.code y cc maxL none :: lw_g) ({ frames := f, cells := kc, slots := ks, locals := w } : Room)).room, s, m, ([Value.ref h0] : List Value).toArray, below, meth, c, D, ids, va_A [(h0, .inr (ci, fs))] s.heap.size, MQ below (va_Qv (fun u : (Nat → Nat) × zM => u.1 root = h0 ∧ zRM u.2 ∧ post u.2) (fun u t => va_P D vwCl (zW ids u.1 u.2 shp) t.heap ∧ va_D (va_A [(h0, .inr (ci, fs))] s.heap.size) (zW ids u.1 u.2 shp)) (va_A [(h0, .inr (ci, fs))] s.heap.size)) ([Value.ref h0] : List Value).toArray s kc ks (va_A [(h0, .inr (ci, fs))] s.heap.size)) l cc maxL y.cls f kc ks w :=
    ⟨rfl, hx, hb, hml, hown, fun q hq => hts q (List.mem_cons_of_mem _ hq), hK, fun q hq => Or.inr hq, hE, Nat.le_refl _, Nat.le_refl _, Nat.le_refl _, Nat.le_refl _⟩
  refine body _ h0 C hin E ⟨fun x hx1 => ?_, fun x hx1 => (List.not_mem_nil hx1).elim, fun d hd => ?_⟩ s.heap [] _ hP hD0.self va_S.rf ⟨?_, hl.2.1, fun i v hi => ?_⟩
  · rcases List.mem_cons.mp hx1 with h | h
    · cases h
    · cases (List.mem_replicate.mp h).2
  · rcases List.mem_cons.mp hd with h | h
    · cases h
    · cases (List.mem_replicate.mp h).2
  · rw [hl.1, List.length_cons, List.length_replicate]; omega
  · cases i with
    | zero =>
      cases hi
      exact hl.2.2 (0, .ref h0) List.mem_cons_self
    | succ i =>
      rw [List.getElem?_cons_succ] at hi
      cases (List.mem_replicate.mp (List.mem_of_getElem? hi)).2
section ZB
variable {X : zY} {l : Launch} {cc : ByteArray} {nL : Nat} {own : String} {f kc ks w : Nat} {ws wr : va_W} {ck sn pc : Nat} {lv lv' : List (Option zV)} {st : List zV}
theorem z_bli {av : List Value} {D : va_G} {ids : Nat → ClassId} {sz : Nat} {wc : va_W} : FrameBlind (va_Pc av (fun U => U.heap.size = sz ∧ va_P D vwCl wc U.heap ∧ va_K D vwCl (zT ids) U ∧ va_D (fun _ => True) wc ∧ zE U)) := fun a U g mk q => by
  obtain ⟨q0, q1, qP, qK, qD, qN⟩ := q
  exact ⟨q0, q1, qP, va_K.moved (u := U) (U := U.calling g mk a) (Vm.Alike.refl U.vm) qK, qD, zE.same (u := U) (U := U.calling g mk a) rfl qN⟩
theorem zb_callI (C : zOc X l cc nL own f kc ks w) {idx ci q maxL f' kc' ks' w' root : Nat} {y : MethodName} {bytes : ByteArray} {fs : List Value} {shp : zS} {post : zM → Prop} (hm : zIni l y bytes maxL f' kc' ks' w' ci fs root shp post) (hc : zCb own idx y bytes maxL none 0) (hi : Cond.instanceMethod y ∈ lw_g) (hy1 : y.name = "<init>") (hroom : f' + 1 ≤ f ∧ 8 + (maxL + 11) + w' ≤ w) (hck : ck + kc' ≤ kc) (hsn : sn + ks' ≤ ks) (hlv : lv.length = nL) (h8 : zcs st ≤ 8) (d : decode cc pc = .ok (.invokespecial idx, 3))
    (k : ∀ (a : Nat → Nat) (M : zM), a root = q → zRM M → post M → zB X (zW (zYi X) a M shp ++ wr) (ck + kc') (sn + ks') (pc + 3) lv st) : zB X ((q, .inr (ci, fs)) :: wr) ck sn pc lv (zr q :: st) := by
  obtain ⟨p, l', e, R, s, m, args, below, meth, c, D, ids, A, Q⟩ := X
  obtain ⟨rfl, hx, hb, hml, hown, hts, hK, hA, hE, hR1, hR2, hR3, hR4⟩ := C
  intro hV H locs ls hP hD hS hL
  obtain ⟨c1, c2, c3, c4⟩ := hc
  have hcut := z_cut (wc := [(q, .inr (ci, fs))]) (wr := wr) hP hD
  have hF := z_freeA (wc := [(q, .inr (ci, fs))]) (wr := wr) hD hS hA
  have hV' : zRV lv st := zRV_sub hV zt1
  refine va_callv (va_runI (As := []) (rest := st.map (zcv (fun a => a))) (own := own) (nL := nL) ⟨hx, hb, hml, hown, hts⟩ (hm D ids q H.size) (cwI 0 hts (z_good c3) rfl rfl rfl (hts _ c2) (hts _ c1) (hts _ hi) hy1 c4 ⟨Nat.le_trans hroom.1 hR1, Nat.le_trans hroom.2 hR4⟩) ⟨z_bli, fun U hU hW => ⟨rfl, by rw [hU], by rw [hU]; exact hcut.1, va_K.moved hW.alike hK, hcut.2.weaken (fun _ _ _ _ => trivial), hE.warm hW⟩⟩ rfl rfl (hL.1.trans hlv) rfl (lv_room (by rw [zcs_eq]; exact h8)) d ⟨Nat.le_trans hck hR2, Nat.le_trans hsn hR3⟩) hS (fun q _ h => hF q h) hF (fun u t H1 locs ht hvm hw hB hz1 hk1 hS => ?_)
  obtain ⟨a, M⟩ := u
  obtain ⟨hP1, hD1⟩ := hB
  rw [ht] at hP1
  obtain ⟨hP2, hD2⟩ := z_back (wc := [(q, .inr (ci, fs))]) (wr := wr) hP hD hk1 hF hP1 hD1
  exact k a M hw.1 hw.2.1 hw.2.2 hV' H1 locs ls hP2 hD2 hS hL
theorem zb_callIN (C : zOc X l cc nL own f kc ks w) {idx ci q maxL f' kc' ks' w' root : Nat} {y : MethodName} {host : String} {bytes : ByteArray} {fs : List Value} {shp : zS} {post : zM → Prop} (hm : zIni l y bytes maxL f' kc' ks' w' ci fs root shp post) (hn : Cond.methodLinkNest own idx y host ∈ zNi) (hini : Cond.initialized y.cls ∈ lw_g) (hcode : Cond.code y bytes maxL none ∈ lw_g) (hd : y.cls ≠ "java/lang/invoke/MethodHandle" ∧ y.cls ≠ "java/lang/invoke/VarHandle" ∧ (parseMethodDescriptor y.desc).map (fun d => d.parameters.length) = some 0) (hi : Cond.instanceMethod y ∈ lw_g) (hy1 : y.name = "<init>") (hroom : f' + 1 ≤ f ∧ 8 + (maxL + 11) + w' ≤ w) (hck : ck + kc' ≤ kc) (hsn : sn + ks' ≤ ks) (hlv : lv.length = nL) (h8 : zcs st ≤ 8) (d : decode cc pc = .ok (.invokespecial idx, 3))
    (k : ∀ (a : Nat → Nat) (M : zM), a root = q → zRM M → post M → zB X (zW (zYi X) a M shp ++ wr) (ck + kc') (sn + ks') (pc + 3) lv st) : zB X ((q, .inr (ci, fs)) :: wr) ck sn pc lv (zr q :: st) := by
  obtain ⟨p, l', e, R, s, m, args, below, meth, c, D, ids, A, Q⟩ := X
  obtain ⟨rfl, hx, hb, hml, hown, hts, hK, hA, hE, hR1, hR2, hR3, hR4⟩ := C
  intro hV H locs ls hP hD hS hL
  have hcut := z_cut (wc := [(q, .inr (ci, fs))]) (wr := wr) hP hD
  have hF := z_freeA (wc := [(q, .inr (ci, fs))]) (wr := wr) hD hS hA
  have hV' : zRV lv st := zRV_sub hV zt1
  refine va_callv (va_runIN (As := []) (rest := st.map (zcv (fun a => a))) (own := own) (nL := nL) ⟨hx, hb, hml, hown, hts⟩ (hm D ids q H.size) ⟨va_cnB 0 hts (z_good hcode) rfl rfl rfl (hE.2.2 _ hn) (hts _ hini) hd ⟨Nat.le_trans hroom.1 hR1, Nat.le_trans hroom.2 hR4⟩, hy1, hts _ hi⟩ ⟨z_bli, fun U hU hW => ⟨rfl, by rw [hU], by rw [hU]; exact hcut.1, va_K.moved hW.alike hK, hcut.2.weaken (fun _ _ _ _ => trivial), hE.warm hW⟩⟩ rfl rfl (hL.1.trans hlv) rfl (lv_room (by rw [zcs_eq]; exact h8)) d ⟨Nat.le_trans hck hR2, Nat.le_trans hsn hR3⟩) hS (fun q _ h => hF q h) hF (fun u t H1 locs ht hvm hw hB hz1 hk1 hS => ?_)
  obtain ⟨a, M⟩ := u
  obtain ⟨hP1, hD1⟩ := hB
  rw [ht] at hP1
  obtain ⟨hP2, hD2⟩ := z_back (wc := [(q, .inr (ci, fs))]) (wr := wr) hP hD hk1 hF hP1 hD1
  exact k a M hw.1 hw.2.1 hw.2.2 hV' H1 locs ls hP2 hD2 hS hL
theorem z_afterG {p : Program} {l : Launch} {e : Env} {R : Room} {s : State} {m : MethodId} {args : Array Value} {below : List Frame} {meth : Method} {c : Code} {H : Heap} {locs : List Loc} {Q : State → Prop} {ls : Array Slot} {D : va_G} {ids : Nat → ClassId} {ad : Nat → Nat} {A : Nat → Prop} {M : zM} {shp : zS} {ret' : Option FieldType} {F' : zV → zM → Prop} {st0 rest : List Value} {a : Array Value}
    (hr : va_Run p l e R s m args below meth c H locs ck sn 0 0 (F0 m pc ls st0) rest (zPost ids ad D shp ret' (va_A (zW ids ad M shp) H.size) F' a) (va_A (zW ids ad M shp) H.size)) (hS : va_S A s.heap H locs) (hP : va_P D vwCl (zW ids ad M shp ++ wr) H) (hD : va_D A (zW ids ad M shp ++ wr)) (hA : ∀ q, s.heap.size ≤ q → A q)
    (kk : ∀ (v : zV) (M' : zM) (H1 : Heap) (locs1 : List Loc), (∀ x, v = zi x → i32 x) → zRM M' → F' v M' → va_P D vwCl (zW ids ad M' shp ++ wr) H1 → va_D A (zW ids ad M' shp ++ wr) → va_S A s.heap H1 locs1 → W p l e R s m args below meth c H1 locs1 ck sn Q (F0 m (pc + 3) ls ((zrv ad ret' v).toList ++ rest))) : W p l e R s m args below meth c H locs ck sn Q (F0 m pc ls st0) := by
  have hf := z_freeA hD hS hA
  intro T hT X
  obtain ⟨v, st₀, t, T', L, h0, X', hL, e1, e2, ⟨⟨z, M', hv, hz1, hM', hF', hP'⟩, hz, hk⟩, st⟩ := hr T hT X
  cases hv
  rw [h0] at hz hk
  have hk1 : ∀ q : Nat, q < H.size → ¬ va_A (zW ids ad M shp) H.size q → T'.heap[q]? = H[q]? := fun q h1 h2 => by rw [e1]; exact hk q h1 h2
  obtain ⟨hP2, hD2⟩ := z_back (w1 := zW ids ad M' shp) hP hD hk1 hf (by rw [e1]; exact hP') (zD_all (z_cut hP hD).2.self M')
  obtain ⟨t2, a1, b1⟩ := kk z M' T'.heap (locs ++ L) hz1 hM' hF' hP2 hD2 ⟨Nat.le_trans hS.1 (by rw [e1]; exact hz), fun q h1 h2 => by rw [hk1 q (Nat.lt_of_lt_of_le h1 hS.1) (fun z => h2 (hf q z))]; exact hS.2.1 q h1 h2, fun q hq => by
      rcases List.mem_append.mp hq with h | h
      · exact hS.2.2 q h
      · exact hf _ (hL q h)⟩ T' rfl X'
  exact ⟨t2, st t2 a1, b1⟩
theorem zb_callSv (C : zOc X l cc nL own f kc ks w) {idx n maxL f' w' : Nat} {y : MethodName} {bytes : ByteArray} {Φ : zM → Prop} {As st0 : List zV} {ad : Nat → Nat} {M : zM} {shp : zS} (hM : zRM M) (hm : zMet l y bytes maxL none f' w' shp As M (zU Φ)) (hc : zCb own idx y bytes maxL none n) (hv : Cond.static y ∈ lw_g) (hn : As.length = n) (hra : ∀ x, Sum.inl x ∈ As → i32 x) (hroom : f' + 1 ≤ f ∧ 8 + (maxL + 11) + w' ≤ w) (hst : st0.map (zcv (fun a => a)) = (As.map (zcv ad)).reverse ++ st.map (zcv (fun a => a))) (hsub : ∀ v ∈ st, v ∈ st0) (hlv : lv.length = nL) (h8 : zcs st ≤ 8) (d : decode cc pc = .ok (.invokestatic idx, 3))
    (k : ∀ M' : zM, zRM M' → Φ M' → zB X (zW (zYi X) ad M' shp ++ wr) ck sn (pc + 3) lv st) (hcks : ck ≤ kc ∧ sn ≤ ks) : zB X (zW (zYi X) ad M shp ++ wr) ck sn pc lv st0 := by
  obtain ⟨p, l', e, R, s, m, args, below, meth, c, D, ids, A, Q⟩ := X
  obtain ⟨rfl, hx, hb, hml, hown, hts, hK, hA, hE, hR1, hR2, hR3, hR4⟩ := C
  intro hV H locs ls hP hD hS hL
  obtain ⟨c1, c2, c3, c4⟩ := hc
  have hcut := z_cut hP hD
  have hmet := hm hM hra D ids ad H.size
  rw [hst]
  refine z_afterG (ret' := none) (F' := zU Φ) (va_runS (As := As.map (zcv ad)) (rest := st.map (zcv (fun a => a))) (own := own) (nL := nL) ⟨hx, hb, hml, hown, hts⟩ hmet ⟨callB_of n hts (z_good c3) rfl rfl rfl (hts _ c2) (hts _ c1) c4 ⟨Nat.le_trans hroom.1 hR1, Nat.le_trans hroom.2 hR4⟩, hts _ hv⟩ ⟨z_blind, fun U hU hW => ⟨rfl, by rw [hU], by rw [hU]; exact hcut.1, va_K.moved hW.alike hK, hcut.2.weaken (fun _ _ _ _ => trivial), hE.1.warm hW⟩⟩ rfl (by rw [List.length_map]; exact hn) (hL.1.trans hlv) rfl (lv_room (by rw [zcs_eq]; exact h8)) d ⟨Nat.le_trans hcks.1 hR2, Nat.le_trans hcks.2 hR3⟩) hS hP hD hA (fun v M' H1 locs1 hz hM' hF' hP1 hD1 hS1 => ?_)
  exact k M' hM' hF' (zRV_sub hV hsub) H1 locs1 ls hP1 hD1 hS1 hL
theorem zb_callV (C : zOc X l cc nL own f kc ks w) {idx n maxL f' w' i ci : Nat} {y : MethodName} {bytes : ByteArray} {ret' : Option FieldType} {F' : zV → zM → Prop} {As st0 : List zV} {ad : Nat → Nat} {M : zM} {shp : zS} {fl : List (Option Nat)} {T : u_T} {N : Nat} (hM : zRM M) (hm : zMet l y bytes maxL ret' f' w' shp (zr i :: As) M F') (hc : zCb own idx y bytes maxL ret' n) (hv : Cond.instanceMethod y ∈ lw_g ∧ Cond.selects y.cls y y ∈ lw_g) (hn : As.length = n) (hs : shp[i]? = some (0, ci, fl)) (hci : vwCl[ci]? = some (y.cls, T, N)) (hra : ∀ x, Sum.inl x ∈ As → i32 x) (hroom : f' + 1 ≤ f ∧ 8 + (maxL + 11) + w' ≤ w) (hst : st0.map (zcv (fun a => a)) = (As.map (zcv ad)).reverse ++ .ref (ad i) :: st.map (zcv (fun a => a))) (hsub : ∀ v ∈ st, v ∈ st0) (hlv : lv.length = nL) (h8 : zcs st ≤ 8) (d : decode cc pc = .ok (.invokevirtual idx, 3)) (hcks : ck ≤ kc ∧ sn ≤ ks) (hnr : ∀ v M', F' v M' → ∀ j, v ≠ zr j)
    (k : ∀ (v : zV) (M' : zM), zRM M' → F' v M' → zB X (zW (zYi X) ad M' shp ++ wr) ck sn (pc + 3) lv (zres ret' v st)) : zB X (zW (zYi X) ad M shp ++ wr) ck sn pc lv st0 := by
  obtain ⟨p, l', e, R, s, m, args, below, meth, c, D, ids, A, Q⟩ := X
  obtain ⟨rfl, hx, hb, hml, hown, hts, hK, hA, hE, hR1, hR2, hR3, hR4⟩ := C
  intro hV H locs ls hP hD hS hL
  obtain ⟨c1, c2, c3, c4⟩ := hc
  have hcut := z_cut hP hD
  have hra2 : ∀ x, Sum.inl x ∈ (zr i :: As) → i32 x := by
    intro x hx1
    rcases List.mem_cons.mp hx1 with h1 | h1
    · cases h1
    · exact hra x h1
  have hmet := hm hM hra2 D ids ad H.size
  have hcell := va_recv hK hcut.1 hci (zW_get (ids := ids) (ad := ad) (M := M) hs)
  rw [hst]
  refine z_afterG (ret' := ret') (F' := F') (va_runV (As := As.map (zcv ad)) (rest := st.map (zcv (fun a => a))) (b := ad i) (own := own) (nL := nL) (C := y.cls) ⟨hx, hb, hml, hown, hts⟩ hmet ⟨callB_of n hts (z_good c3) rfl rfl rfl (hts _ c2) (hts _ c1) c4 ⟨Nat.le_trans hroom.1 hR1, Nat.le_trans hroom.2 hR4⟩, hts _ hv.1, hts _ hv.2⟩ ⟨z_blind, hcell, fun U hU hW => ⟨rfl, by rw [hU], by rw [hU]; exact hcut.1, va_K.moved hW.alike hK, hcut.2.weaken (fun _ _ _ _ => trivial), hE.1.warm hW⟩⟩ rfl (by rw [List.length_map]; exact hn) (hL.1.trans hlv) rfl (lv_room (by rw [zcs_eq]; exact h8)) d ⟨Nat.le_trans hcks.1 hR2, Nat.le_trans hcks.2 hR3⟩) hS hP hD hA (fun v M' H1 locs1 hz hM' hF' hP1 hD1 hS1 => ?_)
  have hV' : zRV lv st := zRV_sub hV hsub
  have k2 := k v M' hM' hF' (z_res hV' hz) H1 locs1 ls hP1 hD1 hS1 hL
  have e1 : zcv ad v = zcv (fun a => a) v := by
    rcases v with x | j | dd
    · rfl
    · exact absurd rfl (hnr _ _ hF' j)
    · rfl
  cases ret' with
  | none => exact k2
  | some ty =>
    show W p _ e R s m args below meth c H1 locs1 ck sn Q (F0 m (pc + 3) ls (zcv ad v :: st.map (zcv (fun a => a))))
    rw [e1]
    exact k2
end ZB
