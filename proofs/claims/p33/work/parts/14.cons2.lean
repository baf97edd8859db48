/-! rows that make cells, and constructors called -/
theorem z_ra {U : State} {cA cB : ClassId} {ty : FieldType} (h1 : va_RA U cA ty) (h2 : va_RA U cB ty) : cA = cB := by
  cases ty with
  | object C =>
    obtain ⟨_, _, _, _, _, g1⟩ := h1
    obtain ⟨_, _, _, _, _, g2⟩ := h2
    exact Option.some.inj (g1.symm.trans g2)
  | _ => exact Option.some.inj (Eq.trans (Eq.symm h1) h2)
theorem z_rk {D : va_G} {tys : List (ClassId × FieldType)} {s : State} {cA c0 : ClassId} {ty : FieldType} {t0 : Nat} (hK : va_K D vwCl (tys ++ [(cA, ty)]) s) (ht : tys[t0]? = some (c0, ty)) : cA = c0 := by
  have h1 : (tys ++ [(cA, ty)])[tys.length]? = some (cA, ty) := by rw [List.getElem?_append_right (Nat.le_refl _), Nat.sub_self]; rfl
  have h2 : (tys ++ [(cA, ty)])[t0]? = some (c0, ty) := by rw [List.getElem?_append_left (List.getElem?_eq_some_iff.mp ht).1]; exact ht
  exact z_ra (hK.2 _ _ h1).2 (hK.2 _ _ h2).2
section ZB
variable {X : zY} {l : Launch} {cc : ByteArray} {nL : Nat} {own : String} {f kc ks w : Nat} {ws : va_W} {ck sn pc : Nat} {lv lv' : List (Option zV)} {st : List zV}
theorem zb_newa (C : zOc X l cc nL own f kc ks w) {atype : ArrayType} {ty : FieldType} {t0 N' : Nat} {x : Int} (hty : newarray.typeOf atype = ty) (harr : Cond.arrayClass ty ∈ lw_g) (ht : ∀ ids : Nat → ClassId, (zT ids)[t0]? = some (ids (t0 + 1), ty)) (hdef : defaultValue ty = .int 0) (hbt : N' * componentBytes ty ≤ 536870912) (hxn : x = (N' : Int)) (hck : ck + 1 ≤ kc) (hsn : sn + N' ≤ ks) (d : decode cc pc = .ok (.newarray atype, 2))
    (k : ∀ q : Nat, zB X (ws ++ [(q, .inl (zYi X (t0 + 1), N', .inl (fun _ => 0)))]) (ck + 1) (sn + N') (pc + 2) lv (zr q :: st)) : zB X ws ck sn pc lv (zi x :: st) := by
  obtain ⟨p, l', e, R, s, m, args, below, meth, c, D, ids, A, Q⟩ := X
  obtain ⟨rfl, hx, hb, hml, hown, hts, hK, hA, hE, hR1, hR2, hR3, hR4⟩ := C
  intro hV H locs ls hP hD hS hL
  have hxi : i32 x := hV.2.1 x List.mem_cons_self
  subst hty
  refine va_newa (a0 := (N', .inl (fun _ => 0))) hx hb (hts _ harr) rfl hK hP hD hS hA (fun cA => by unfold vp_cell; rw [hdef]) (fun q => by rw [show (0 : Int32) = Int32.ofInt 0 from rfl, zi_lt hxi (by decide)] at q; omega) (by rw [zi_nat hxi (by omega), hxn]; exact Int.toNat_natCast N') hbt (Nat.le_trans hck hR2) (Nat.le_trans hsn hR3) d (fun q cA H1 hK1 hP1 hD1 hS1 => ?_)
  have e1 := z_rk hK1 (ht ids)
  subst e1
  exact k q (zRV_r hV zt1) H1 locs ls hP1 hD1 hS1 hL
theorem zb_newq (C : zOc X l cc nL own f kc ks w) {N' idx : Nat} {x : Int} (hcl : Cond.classLink own idx "BarStrips$Chart" ∈ lw_g) (hbt : N' * 4 ≤ 536870912) (hxn : x = (N' : Int)) (hck : ck + 1 ≤ kc) (hsn : sn + N' ≤ ks) (d : decode cc pc = .ok (.anewarray idx, 3))
    (k : ∀ q : Nat, zB X (ws ++ [(q, .inl (zYi X 4, N', .inr (.inr (.inr (.inr (fun _ => none))))))]) (ck + 1) (sn + N') (pc + 3) lv (zr q :: st)) : zB X ws ck sn pc lv (zi x :: st) := by
  obtain ⟨p, l', e, R, s, m, args, below, meth, c, D, ids, A, Q⟩ := X
  obtain ⟨rfl, hx, hb, hml, hown, hts, hK, hA, hE, hR1, hR2, hR3, hR4⟩ := C
  intro hV H locs ls hP hD hS hL
  have hxi : i32 x := hV.2.1 x List.mem_cons_self
  refine va_newq hx hb hown (hts _ hcl) hE.2.1 hK hP hD hS hA (fun q => by rw [show (0 : Int32) = Int32.ofInt 0 from rfl, zi_lt hxi (by decide)] at q; omega) (by rw [zi_nat hxi (by omega), hxn]; exact Int.toNat_natCast N') hbt (Nat.le_trans hck hR2) (Nat.le_trans hsn hR3) d (fun q cA H1 hK1 hP1 hD1 hS1 => ?_)
  have e1 := z_rk hK1 (show (zT ids)[3]? = some (ids 4, .object "BarStrips$Chart") from rfl)
  subst e1
  exact k q (zRV_r hV zt1) H1 locs ls hP1 hD1 hS1 hL
theorem zb_new (C : zOc X l cc nL own f kc ks w) {CC : String} {T : u_T} {N ci idx : Nat} (hcl : Cond.classLink own idx CC ∈ lw_g) (hinst : Cond.instantiable CC N ∈ lw_g) (hini : Cond.initialized CC ∈ lw_g) (hin : ∀ q ∈ u_ws CC T N, q ∈ lw_g) (ty : Nat → FieldType) (hty : ∀ k, k < N → parseFieldDescriptor (T k).2.2.1 = some (ty k)) (hc : vwCl[ci]? = some (CC, T, N)) {fs : List Value} (hfs : ∀ j, j < N → defaultValue (ty j) = vp_V fs j) (hck : ck + 1 ≤ kc) (hsn : sn + N ≤ ks) (d : decode cc pc = .ok (.new idx, 3))
    (k : ∀ q : Nat, zB X (ws ++ [(q, .inr (ci, fs))]) (ck + 1) (sn + N) (pc + 3) lv (zr q :: st)) : zB X ws ck sn pc lv st := by
  obtain ⟨p, l', e, R, s, m, args, below, meth, c, D, ids, A, Q⟩ := X
  obtain ⟨rfl, hx, hb, hml, hown, hts, hK, hA, hE, hR1, hR2, hR3, hR4⟩ := C
  intro hV H locs ls hP hD hS hL
  exact va_new (ci := ci) hx hb hts hin ty hty hown (hts _ hcl) (hts _ hinst) (hts _ hini) hK hP hD hS hA hc hfs (Nat.le_trans hck hR2) (Nat.le_trans hsn hR3) d (fun q H1 hP1 hD1 hS1 => k q (zRV_r hV zt0) H1 locs ls hP1 hD1 hS1 hL)
theorem zb_objInit (C : zOc X l cc nL own f kc ks w) {idx a : Nat} (hl : Cond.methodLink own idx objectInit ∈ lw_g) (hi : Cond.instanceMethod objectInit ∈ lw_g) (hc : Cond.code objectInit ⟨#[0xb1]⟩ 1 none ∈ lw_g) (hlv : lv.length = nL) (hf : 1 ≤ f) (hw : 12 ≤ w) (d : decode cc pc = .ok (.invokespecial idx, 3)) (k : zB X ws ck sn (pc + 3) lv []) : zB X ws ck sn pc lv [zr a] := by
  obtain ⟨p, l', e, R, s, m, args, below, meth, c, D, ids, A, Q⟩ := X
  obtain ⟨rfl, hx, hb, hml, hown, hts, hK, hA, hE, hR1, hR2, hR3, hR4⟩ := C
  intro hV H locs ls hP hD hS hL
  refine W.objInit hx hb hown (hts _ hl) (hts _ hi) (hts _ hc) rfl (by rw [hml]; exact hL.1.trans hlv) rfl d (Nat.le_trans hf hR1) (Nat.le_trans hw hR4) ?_
  exact k (zRV_sub hV (fun _ h => (List.not_mem_nil h).elim)) H locs ls hP hD hS hL
theorem zb_putF (C : zOc X l cc nL own f kc ks w) (hin2 : zYn X) {idx ci k0 h0 : Nat} {ty : FieldType} {fs fs' : List Value} {v : zV} (hF : zFok own idx ci k0 ty true) (hdecl : ∀ (CC : String) (T : u_T) (N : Nat), vwCl[ci]? = some (CC, T, N) → (T k0).1 = own) (hn : narrow ty (zcv (fun a => a) v) = zcv (fun a => a) v) (hfit : fits ty (zcv (fun a => a) v) = true) (hl : k0 < fs.length) (hfs : fs.set k0 (zcv (fun a => a) v) = fs') (d : decode cc pc = .ok (.putfield idx, 3)) (k : zB X ((h0, .inr (ci, fs')) :: ws) ck sn (pc + 3) lv st) : zB X ((h0, .inr (ci, fs)) :: ws) ck sn pc lv (v :: zr h0 :: st) := by
  obtain ⟨p, l', e, R, s, m, args, below, meth, c, D, ids, A, Q⟩ := X
  obtain ⟨rfl, hx, hb, hml, hown, hts, hK, hA, hE, hR1, hR2, hR3, hR4⟩ := C
  intro hV H locs ls hP hD hS hL
  obtain ⟨CC, T, N, ty0, h1, h2, h3, h4, h5, h6, h7, h8⟩ := hF
  subst hfs
  exact va_putF (ref := (T k0).1) hx hb hts h3 ty0 h5 h6 hown hK hP hD hS 0 rfl h1 k0 h2 (hts _ h4) (fun _ q => q) h8 hin2 (hdecl CC T N h1) h7 hn hfit hl d (fun H1 locs1 hP1 hD1 hS1 => k (zRV_sub hV zt2) H1 locs1 ls hP1 hD1 hS1 hL)
theorem zb_getr (C : zOc X l cc nL own f kc ks w) {idx ci k0 h0 b : Nat} {ty : FieldType} {fin : Bool} {fs : List Value} (q0 : Nat) (hq : ws[q0]? = some (h0, .inr (ci, fs))) (hF : zFok own idx ci k0 ty fin) (hg : fs[k0]? = some (.ref b)) (d : decode cc pc = .ok (.getfield idx, 3)) (k : zB X ws ck sn (pc + 3) lv (zr b :: st)) : zB X ws ck sn pc lv (zr h0 :: st) := by
  obtain ⟨p, l', e, R, s, m, args, below, meth, c, D, ids, A, Q⟩ := X
  obtain ⟨rfl, hx, hb, hml, hown, hts, hK, hA, hE, hR1, hR2, hR3, hR4⟩ := C
  intro hV H locs ls hP hD hS hL
  obtain ⟨CC, T, N, ty0, h1, h2, h3, h4, h5, h6, h7, h8⟩ := hF
  exact va_get (ref := (T k0).1) hx hb hts h3 hown hK hP q0 hq h1 k0 h2 (hts _ h4) (fun _ q => q) hg d (k (zRV_r hV zt1) H locs ls hP hD hS hL)
theorem zb_iast (C : zOc X l cc nL own f kc ks w) {a n : Nat} {z x : Int} {g g' : Nat → Int32} (q0 : Nat) (hq : ws[q0]? = some (a, .inl (zYi X 1, n, .inl g))) (h0 : 0 ≤ z) (h1 : z < n) (hg : upd g z.toNat (Int32.ofInt x) = g') {ws' : va_W} (hws : ws.set q0 (a, .inl (zYi X 1, n, .inl g')) = ws') (d : decode cc pc = .ok (.iastore, 1)) (k : zB X ws' ck sn (pc + 1) lv st) : zB X ws ck sn pc lv (zi x :: zi z :: zr a :: st) := by
  obtain ⟨p, l', e, R, s, m, args, below, meth, c, D, ids, A, Q⟩ := X
  obtain ⟨rfl, hx, hb, hml, hown, hts, hK, hA, hE, hR1, hR2, hR3, hR4⟩ := C
  intro hV H locs ls hP hD hS hL
  have hz : i32 z := hV.2.1 z (List.mem_cons_of_mem _ List.mem_cons_self)
  subst hg
  subst hws
  refine va_iast (f := g) hx hb hK hP hD hS q0 0 hq rfl (zi_in hz h0 h1) d (fun H1 locs1 hP1 hD1 hS1 => ?_)
  rw [zi_nat hz h0] at hP1 hD1
  exact k (zRV_sub hV zt3) H1 locs1 ls hP1 hD1 hS1 hL
theorem zb_astq (C : zOc X l cc nL own f kc ks w) {a n v ci : Nat} {z : Int} {g g' : Nat → Option Nat} {vs : List Value} {T : u_T} {N : Nat} (q0 qk : Nat) (hq : ws[q0]? = some (a, .inl (zYi X 4, n, .inr (.inr (.inr (.inr g)))))) (hv : ws[qk]? = some (v, .inr (ci, vs))) (hc : vwCl[ci]? = some ("BarStrips$Chart", T, N)) (h0 : 0 ≤ z) (h1 : z < n) (hg : va_up g z.toNat (some v) = g') {ws' : va_W} (hws : ws.set q0 (a, .inl (zYi X 4, n, .inr (.inr (.inr (.inr g'))))) = ws') (d : decode cc pc = .ok (.aastore, 1)) (k : zB X ws' ck sn (pc + 1) lv st) : zB X ws ck sn pc lv (zr v :: zi z :: zr a :: st) := by
  obtain ⟨p, l', e, R, s, m, args, below, meth, c, D, ids, A, Q⟩ := X
  obtain ⟨rfl, hx, hb, hml, hown, hts, hK, hA, hE, hR1, hR2, hR3, hR4⟩ := C
  intro hV H locs ls hP hD hS hL
  have hz : i32 z := hV.2.1 z (List.mem_cons_of_mem _ List.mem_cons_self)
  subst hg
  subst hws
  refine va_astq hx hb hK hP hD hS q0 3 qk ci hq rfl hv hc (zi_in hz h0 h1) d (fun H1 locs1 hP1 hD1 hS1 => ?_)
  rw [zi_nat hz h0] at hP1 hD1
  exact k (zRV_sub hV zt3) H1 locs1 ls hP1 hD1 hS1 hL
theorem zb_widen {k n : Nat} (h1 : ck ≤ k) (h2 : sn ≤ n) (kk : zB X ws k n pc lv st) : zB X ws ck sn pc lv st := by
  obtain ⟨p, l', e, R, s, m, args, below, meth, c, D, ids, A, Q⟩ := X
  intro hV H locs ls hP hD hS hL
  exact W.widen h1 h2 (kk hV H locs ls hP hD hS hL)
end ZB
-- worlds: the order of the cells does not matter
theorem va_D_iff {A : Nat → Prop} {ws : va_W} : va_D A ws ↔ (ws.map Prod.fst).Nodup ∧ ∀ q ∈ ws, A q.1 := by
  constructor
  · intro h
    refine ⟨List.pairwise_iff_getElem.mpr (fun i j hi hj hij e => ?_), fun q hq => ?_⟩
    · have hi2 : i < ws.length := by rw [List.length_map] at hi; exact hi
      have hj2 : j < ws.length := by rw [List.length_map] at hj; exact hj
      rw [List.getElem_map, List.getElem_map] at e
      have := h.1 i j _ _ (List.getElem?_eq_getElem hi2) (List.getElem?_eq_getElem hj2) e
      omega
    · obtain ⟨k, hk⟩ := List.getElem?_of_mem hq
      exact h.2 k q hk
  · rintro ⟨h1, h2⟩
    refine ⟨fun i j p q hp hq e => ?_, fun k q hk => h2 q (List.mem_of_getElem? hk)⟩
    obtain ⟨hi, ei⟩ := List.getElem?_eq_some_iff.mp hp
    obtain ⟨hj, ej⟩ := List.getElem?_eq_some_iff.mp hq
    rcases Nat.lt_trichotomy i j with z | z | z
    · refine absurd ?_ (List.pairwise_iff_getElem.mp h1 i j (by rw [List.length_map]; exact hi) (by rw [List.length_map]; exact hj) z)
      rw [List.getElem_map, List.getElem_map, ei, ej]
      exact e
    · exact z
    · refine absurd ?_ (List.pairwise_iff_getElem.mp h1 j i (by rw [List.length_map]; exact hj) (by rw [List.length_map]; exact hi) z)
      rw [List.getElem_map, List.getElem_map, ei, ej]
      exact e.symm
theorem va_P_iff {D : va_G} {cl : List vw_C} {ws : va_W} {H : Heap} : va_P D cl ws H ↔ ∀ q ∈ ws, va_at D cl q H :=
  ⟨fun h q hq => by obtain ⟨k, hk⟩ := List.getElem?_of_mem hq; exact h k q hk, fun h k q hk => h q (List.mem_of_getElem? hk)⟩
theorem va_P_perm {D : va_G} {cl : List vw_C} {ws ws' : va_W} {H : Heap} (hp : ws.Perm ws') (h : va_P D cl ws H) : va_P D cl ws' H := va_P_iff.mpr (fun q hq => va_P_iff.mp h q (hp.mem_iff.mpr hq))
theorem va_D_perm {A : Nat → Prop} {ws ws' : va_W} (hp : ws.Perm ws') (h : va_D A ws) : va_D A ws' := by
  have g := va_D_iff.mp h
  exact va_D_iff.mpr ⟨(hp.map Prod.fst).nodup_iff.mp g.1, fun q hq => g.2 q (hp.mem_iff.mpr hq)⟩
theorem zb_perm {X : zY} {ws ws' : va_W} {ck sn pc : Nat} {lv : List (Option zV)} {st : List zV} (hp : ws.Perm ws') (k : zB X ws' ck sn pc lv st) : zB X ws ck sn pc lv st := by
  obtain ⟨p, l', e, R, s, m, args, below, meth, c, D, ids, A, Q⟩ := X
  intro hV H locs ls hP hD hS hL
  exact k hV H locs ls (va_P_perm hp hP) (va_D_perm hp hD) hS hL
/-- the callee's cells cut out of the world, and what it leaves put back -/
theorem z_cut {A : Nat → Prop} {D : va_G} {wc wr : va_W} {H : Heap} (hP : va_P D vwCl (wc ++ wr) H) (hD : va_D A (wc ++ wr)) : va_P D vwCl wc H ∧ va_D A wc := by
  have g := va_D_iff.mp hD
  refine ⟨va_P_iff.mpr (fun q hq => va_P_iff.mp hP q (List.mem_append_left _ hq)), va_D_iff.mpr ⟨?_, fun q hq => g.2 q (List.mem_append_left _ hq)⟩⟩
  rw [List.map_append] at g
  exact (List.nodup_append.mp g.1).1
theorem z_back {A : Nat → Prop} {D : va_G} {wc wr w1 : va_W} {H H1 : Heap} (hP : va_P D vwCl (wc ++ wr) H) (hD : va_D A (wc ++ wr)) (hk : ∀ q : Nat, q < H.size → ¬ va_A wc H.size q → H1[q]? = H[q]?) (hF : ∀ q, va_A wc H.size q → A q) (hP1 : va_P D vwCl w1 H1) (hD1 : va_D (va_A wc H.size) w1) : va_P D vwCl (w1 ++ wr) H1 ∧ va_D A (w1 ++ wr) := by
  have g := va_D_iff.mp hD
  rw [List.map_append] at g
  have gn := List.nodup_append.mp g.1
  have g1 := va_D_iff.mp hD1
  have apart : ∀ q ∈ wr, q.1 < H.size ∧ ¬ va_A wc H.size q.1 := by
    intro q hq
    have hlt := (va_P_iff.mp hP q (List.mem_append_right _ hq)).lt
    refine ⟨hlt, fun z => ?_⟩
    rcases z with ⟨k, e, hk⟩ | z
    · exact gn.2.2 q.1 (show q.1 ∈ wc.map Prod.fst from List.mem_map.mpr ⟨(q.1, e), List.mem_of_getElem? hk, rfl⟩) q.1 (List.mem_map_of_mem (f := Prod.fst) hq) rfl
    · omega
  refine ⟨va_P_iff.mpr (fun q hq => ?_), va_D_iff.mpr ⟨?_, fun q hq => ?_⟩⟩
  · rcases List.mem_append.mp hq with h | h
    · exact va_P_iff.mp hP1 q h
    · exact (va_P_iff.mp hP q (List.mem_append_right _ h)).kept (hk q.1 (apart q h).1 (apart q h).2)
  · rw [List.map_append]
    refine List.nodup_append.mpr ⟨g1.1, gn.2.1, fun x hx y hy e => ?_⟩
    obtain ⟨p, hp, rfl⟩ := List.mem_map.mp hx
    obtain ⟨q, hq, rfl⟩ := List.mem_map.mp hy
    exact (apart q hq).2 (e ▸ g1.2 p hp)
  · rcases List.mem_append.mp hq with h | h
    · exact hF q.1 (g1.2 q h)
    · exact g.2 q (List.mem_append_right _ h)
theorem z_freeA {A : Nat → Prop} {wc wr : va_W} {H0 H : Heap} {locs : List Loc} (hD : va_D A (wc ++ wr)) (hS : va_S A H0 H locs) (hA : ∀ q, H0.size ≤ q → A q) : ∀ q, va_A wc H.size q → A q := by
  intro q h
  rcases h with ⟨k, e, h⟩ | h
  · exact (va_D_iff.mp hD).2 (q, e) (List.mem_append_left _ (List.mem_of_getElem? h))
  · exact hA q (Nat.le_trans hS.1 h)
