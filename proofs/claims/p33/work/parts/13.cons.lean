/-! the machine that makes cells: rows turned from those over zG by gen/cons.py -/
def zNi : List Cond := [.methodLinkNest RX7 31 yX4_init "BarStrips", .methodLinkNest RX7 38 yX5_init "BarStrips", .methodLinkNest RX7 45 yX2_init "BarStrips", .methodLinkNest RX7 52 yX1_init "BarStrips", .methodLinkNest RX7 59 yX6_init "BarStrips"]
def zE (U : State) : Prop := zN U ∧ va_AO "BarStrips$Chart" U ∧ ∀ q ∈ zNi, va_Nw q U
theorem zE.warm {s U : State} (hW : s.WarmedH U.vm) (h : zE s) : zE U := by
  refine ⟨h.1.warm hW, va_AO.moved hW.alike h.2.1, fun q hq => ?_⟩
  have h1 := h.2.2 q hq
  unfold zNi at hq
  rcases List.mem_cons.mp hq with rfl | hq
  · exact va_Nw.warmM hW h1
  rcases List.mem_cons.mp hq with rfl | hq
  · exact va_Nw.warmM hW h1
  rcases List.mem_cons.mp hq with rfl | hq
  · exact va_Nw.warmM hW h1
  rcases List.mem_cons.mp hq with rfl | hq
  · exact va_Nw.warmM hW h1
  rcases List.mem_cons.mp hq with rfl | hq
  · exact va_Nw.warmM hW h1
  exact (List.not_mem_nil hq).elim
theorem zE.same {u U : State} (h : u.vm = U.vm) (hN : zE u) : zE U := by
  refine ⟨hN.1.same h, va_AO.moved (by rw [h]; exact Vm.Alike.refl U.vm) hN.2.1, fun q hq => ?_⟩
  have h1 := hN.2.2 q hq
  unfold zNi at hq
  rcases List.mem_cons.mp hq with rfl | hq
  · exact va_Nw.same rfl h h1
  rcases List.mem_cons.mp hq with rfl | hq
  · exact va_Nw.same rfl h h1
  rcases List.mem_cons.mp hq with rfl | hq
  · exact va_Nw.same rfl h h1
  rcases List.mem_cons.mp hq with rfl | hq
  · exact va_Nw.same rfl h h1
  rcases List.mem_cons.mp hq with rfl | hq
  · exact va_Nw.same rfl h h1
  exact (List.not_mem_nil hq).elim
abbrev zY : Type := Program × Launch × Env × Room × State × MethodId × Array Value × List Frame × Method × Code × va_G × (Nat → ClassId) × (Nat → Prop) × (State → Prop)
abbrev zid : Nat → Nat := fun a => a
def zB : zY → va_W → Nat → Nat → Nat → List (Option zV) → List zV → Prop
  | (p, l, e, R, s, m, args, below, meth, c, D, ids, A, Q), ws, ck, sn, pc, lv, st => zRV lv st → ∀ (H : Heap) (locs : List Loc) (ls : Array Slot), va_P D vwCl ws H → va_D A ws → va_S A s.heap H locs → zL ls (fun a => a) lv →
      W p l e R s m args below meth c H locs ck sn Q (F0 m pc ls (st.map (zcv (fun a => a))))
def zOc : zY → Launch → ByteArray → Nat → String → Nat → Nat → Nat → Nat → Prop
  | (p, l, e, R, s, m, args, below, meth, c, D, ids, A, Q), l', cc, nL, own, f, kc, ks, w =>
    l = l' ∧ p.tables.exec = Jvm.exec ∧ c.code = cc ∧ c.maxLocals = nL ∧ s.vm.findClass own = some m.cls ∧ (∀ q ∈ lw_g, q.before args s = true) ∧ va_K D vwCl (zT ids) s ∧ (∀ q, s.heap.size ≤ q → A q) ∧ zE s ∧ f ≤ R.frames ∧ kc ≤ R.cells ∧ ks ≤ R.slots ∧ w ≤ R.locals
def zYi : zY → Nat → ClassId
  | (p, l, e, R, s, m, args, below, meth, c, D, ids, A, Q) => ids
def zYn : zY → Prop
  | (p, l, e, R, s, m, args, below, meth, c, D, ids, A, Q) => meth.name = "<init>"
section ZB
variable {X : zY} {l : Launch} {cc : ByteArray} {nL : Nat} {own : String} {f kc ks w : Nat} {ws : va_W} {ck sn pc : Nat} {lv lv' : List (Option zV)} {st : List zV}
theorem zb_iconst (C : zOc X l cc nL own f kc ks w) {n x : Int} (d : decode cc pc = .ok (.iconst n, 1)) (hv : Int32.ofInt n = Int32.ofInt x) (h : i32 x) (k : zB X ws ck sn (pc + 1) lv (zi x :: st)) : zB X ws ck sn pc lv st := by
  obtain ⟨p, l', e, R, s, m, args, below, meth, c, D, ids, A, Q⟩ := X
  obtain ⟨rfl, hx, hb, hml, hown, hts, hK, hA, hE, hR1, hR2, hR3, hR4⟩ := C
  intro hV H locs ls hP hD hS hL
  refine lv_iconst (v := Int32.ofInt x) hx hb d hv ?_
  exact k (zRV_i hV h zt0) H locs ls hP hD hS hL
theorem zb_bipush (C : zOc X l cc nL own f kc ks w) {n x : Int} (d : decode cc pc = .ok (.bipush n, 2)) (hv : (Int8.ofInt n).toInt32 = Int32.ofInt x) (h : i32 x) (k : zB X ws ck sn (pc + 2) lv (zi x :: st)) : zB X ws ck sn pc lv st := by
  obtain ⟨p, l', e, R, s, m, args, below, meth, c, D, ids, A, Q⟩ := X
  obtain ⟨rfl, hx, hb, hml, hown, hts, hK, hA, hE, hR1, hR2, hR3, hR4⟩ := C
  intro hV H locs ls hP hD hS hL
  refine lv_bipush (v := Int32.ofInt x) hx hb d hv ?_
  exact k (zRV_i hV h zt0) H locs ls hP hD hS hL
theorem zb_sipush (C : zOc X l cc nL own f kc ks w) {n x : Int} (d : decode cc pc = .ok (.sipush n, 3)) (hv : (Int16.ofInt n).toInt32 = Int32.ofInt x) (h : i32 x) (k : zB X ws ck sn (pc + 3) lv (zi x :: st)) : zB X ws ck sn pc lv st := by
  obtain ⟨p, l', e, R, s, m, args, below, meth, c, D, ids, A, Q⟩ := X
  obtain ⟨rfl, hx, hb, hml, hown, hts, hK, hA, hE, hR1, hR2, hR3, hR4⟩ := C
  intro hV H locs ls hP hD hS hL
  refine lv_sipush (v := Int32.ofInt x) hx hb d hv ?_
  exact k (zRV_i hV h zt0) H locs ls hP hD hS hL
theorem zb_iload_n (C : zOc X l cc nL own f kc ks w) {k1 : Fin 4} {i : Nat} {x : Int} (d : decode cc pc = .ok (.iload_n k1, 1)) (hi : (k1 : Nat) = i) (hg : lv[i]? = some (some (zi x))) (k : zB X ws ck sn (pc + 1) lv (zi x :: st)) : zB X ws ck sn pc lv st := by
  obtain ⟨p, l', e, R, s, m, args, below, meth, c, D, ids, A, Q⟩ := X
  obtain ⟨rfl, hx, hb, hml, hown, hts, hK, hA, hE, hR1, hR2, hR3, hR4⟩ := C
  intro hV H locs ls hP hD hS hL
  refine lv_iload_n hx hb d hi (hL.2.2 i _ hg) ?_
  exact k (zRV_i hV (hV.1 x (List.mem_of_getElem? hg)) zt0) H locs ls hP hD hS hL
theorem zb_aload_n (C : zOc X l cc nL own f kc ks w) {k1 : Fin 4} {i : Nat} {x : Nat} (d : decode cc pc = .ok (.aload_n k1, 1)) (hi : (k1 : Nat) = i) (hg : lv[i]? = some (some (zr x))) (k : zB X ws ck sn (pc + 1) lv (zr x :: st)) : zB X ws ck sn pc lv st := by
  obtain ⟨p, l', e, R, s, m, args, below, meth, c, D, ids, A, Q⟩ := X
  obtain ⟨rfl, hx, hb, hml, hown, hts, hK, hA, hE, hR1, hR2, hR3, hR4⟩ := C
  intro hV H locs ls hP hD hS hL
  refine lv_aload_n hx hb d hi (hL.2.2 i _ hg) ?_
  exact k (zRV_r hV zt0) H locs ls hP hD hS hL
theorem zb_istore_n (C : zOc X l cc nL own f kc ks w) {k1 : Fin 4} {i : Nat} {x : Int} (d : decode cc pc = .ok (.istore_n k1, 1)) (hi : (k1 : Nat) = i) (hi2 : i < lv.length) (hl : lv.set i (some (zi x)) = lv') (k : zB X ws ck sn (pc + 1) lv' (st)) : zB X ws ck sn pc lv (zi x :: st) := by
  obtain ⟨p, l', e, R, s, m, args, below, meth, c, D, ids, A, Q⟩ := X
  obtain ⟨rfl, hx, hb, hml, hown, hts, hK, hA, hE, hR1, hR2, hR3, hR4⟩ := C
  intro hV H locs ls hP hD hS hL
  subst hl
  refine lv_istore_n hx hb d hi (zL_to hL) hi2 rfl (fun ls' hl' => ?_)
  have hL' := zL_store (ad := fun a => a) (v := zi x) hV.2.2 hi2 hl'
  exact k (zRV_set hV List.mem_cons_self zt1 (fun d h => by cases h)) H locs ls' hP hD hS hL'
theorem zb_astore_n (C : zOc X l cc nL own f kc ks w) {k1 : Fin 4} {i : Nat} {x : Nat} (d : decode cc pc = .ok (.astore_n k1, 1)) (hi : (k1 : Nat) = i) (hi2 : i < lv.length) (hl : lv.set i (some (zr x)) = lv') (k : zB X ws ck sn (pc + 1) lv' (st)) : zB X ws ck sn pc lv (zr x :: st) := by
  obtain ⟨p, l', e, R, s, m, args, below, meth, c, D, ids, A, Q⟩ := X
  obtain ⟨rfl, hx, hb, hml, hown, hts, hK, hA, hE, hR1, hR2, hR3, hR4⟩ := C
  intro hV H locs ls hP hD hS hL
  subst hl
  refine lv_astore_n hx hb d hi (zL_to hL) hi2 rfl (fun ls' hl' => ?_)
  have hL' := zL_store (ad := fun a => a) (v := zr x) hV.2.2 hi2 hl'
  exact k (zRV_set hV List.mem_cons_self zt1 (fun d h => by cases h)) H locs ls' hP hD hS hL'
theorem zb_iinc (C : zOc X l cc nL own f kc ks w) {i : Nat} {n x y : Int} (d : decode cc pc = .ok (.iinc i n, 3)) (hg : lv[i]? = some (some (zi x))) (hy : x + n = y) (h : i32 y) (hl : lv.set i (some (zi y)) = lv') (k : zB X ws ck sn (pc + 3) lv' (st)) : zB X ws ck sn pc lv st := by
  obtain ⟨p, l', e, R, s, m, args, below, meth, c, D, ids, A, Q⟩ := X
  obtain ⟨rfl, hx, hb, hml, hown, hts, hK, hA, hE, hR1, hR2, hR3, hR4⟩ := C
  intro hV H locs ls hP hD hS hL
  subst hl
  subst hy
  have hi2 : i < lv.length := (List.getElem?_eq_some_iff.mp hg).1
  obtain ⟨k2, hk2⟩ := List.getElem?_of_mem (zlp_mem (ad := fun a => a) (lv := lv) (q := (i, zcv (fun a => a) (zi x))) |>.mpr ⟨zi x, hg, rfl⟩)
  refine lv_iinc (v := Int32.ofInt (x + n)) hx hb d (zL_to hL) hk2 (zi_add x n) hi2 rfl (fun ls' hl' => ?_)
  have hL' := zL_store (ad := fun a => a) (v := zi (x + n)) hV.2.2 hi2 hl'
  refine k (zRV_set (zRV_i (x := x + n) hV h (st' := st) zt0) List.mem_cons_self zt1 (fun d h => by cases h)) H locs ls' hP hD hS hL'
theorem zb_iadd (C : zOc X l cc nL own f kc ks w) {x y : Int} (d : decode cc pc = .ok (.iadd, 1)) (h : i32 (x + y)) (k : zB X ws ck sn (pc + 1) lv (zi (x + y) :: st)) : zB X ws ck sn pc lv (zi y :: zi x :: st) := by
  obtain ⟨p, l', e, R, s, m, args, below, meth, c, D, ids, A, Q⟩ := X
  obtain ⟨rfl, hx, hb, hml, hown, hts, hK, hA, hE, hR1, hR2, hR3, hR4⟩ := C
  intro hV H locs ls hP hD hS hL
  refine lv_iadd hx hb d ?_
  rw [zi_add]
  exact k (zRV_i hV h zt2) H locs ls hP hD hS hL
theorem zb_isub (C : zOc X l cc nL own f kc ks w) {x y : Int} (d : decode cc pc = .ok (.isub, 1)) (h : i32 (x - y)) (k : zB X ws ck sn (pc + 1) lv (zi (x - y) :: st)) : zB X ws ck sn pc lv (zi y :: zi x :: st) := by
  obtain ⟨p, l', e, R, s, m, args, below, meth, c, D, ids, A, Q⟩ := X
  obtain ⟨rfl, hx, hb, hml, hown, hts, hK, hA, hE, hR1, hR2, hR3, hR4⟩ := C
  intro hV H locs ls hP hD hS hL
  refine lv_isub hx hb d ?_
  rw [zi_sub]
  exact k (zRV_i hV h zt2) H locs ls hP hD hS hL
theorem zb_iand (C : zOc X l cc nL own f kc ks w) {x y : Int} (d : decode cc pc = .ok (.iand, 1)) (k : zB X ws ck sn (pc + 1) lv (zi (zand x y) :: st)) : zB X ws ck sn pc lv (zi y :: zi x :: st) := by
  obtain ⟨p, l', e, R, s, m, args, below, meth, c, D, ids, A, Q⟩ := X
  obtain ⟨rfl, hx, hb, hml, hown, hts, hK, hA, hE, hR1, hR2, hR3, hR4⟩ := C
  intro hV H locs ls hP hD hS hL
  refine lv_iand hx hb d ?_
  have k2 := k (zRV_i hV (zi_rng _) zt2) H locs ls hP hD hS hL
  rw [List.map_cons] at k2
  unfold zand at k2
  simp only [zcv, zi_of] at k2
  exact k2
theorem zb_dup (C : zOc X l cc nL own f kc ks w) {v : zV} (d : decode cc pc = .ok (.dup, 1)) (hv : zNd [v] = true) (k : zB X ws ck sn (pc + 1) lv (v :: v :: st)) : zB X ws ck sn pc lv (v :: st) := by
  obtain ⟨p, l', e, R, s, m, args, below, meth, c, D, ids, A, Q⟩ := X
  obtain ⟨rfl, hx, hb, hml, hown, hts, hK, hA, hE, hR1, hR2, hR3, hR4⟩ := C
  intro hV H locs ls hP hD hS hL
  refine lv_dup hx hb d (z_cat (fun a => a) (zNd1 hv)) ?_
  exact k (zRV_sub hV (fun x hx => (List.mem_cons.mp hx).elim (fun e => e ▸ List.mem_cons_self) (fun e => e))) H locs ls hP hD hS hL
theorem zb_goto (C : zOc X l cc nL own f kc ks w) {off : Int} {tgt : Nat} (d : decode cc pc = .ok (.goto off, 3)) (ht : (pc : Int) + off = (tgt : Int)) (k : zB X ws ck sn tgt lv st) : zB X ws ck sn pc lv st := by
  obtain ⟨p, l', e, R, s, m, args, below, meth, c, D, ids, A, Q⟩ := X
  obtain ⟨rfl, hx, hb, hml, hown, hts, hK, hA, hE, hR1, hR2, hR3, hR4⟩ := C
  intro hV H locs ls hP hD hS hL
  refine lv_goto hx hb d ht ?_
  exact k hV H locs ls hP hD hS hL
theorem zb_icmp_ge (C : zOc X l cc nL own f kc ks w) {x y : Int} {off : Int} {tgt : Nat} (d : decode cc pc = .ok (.if_icmp .ge off, 3)) (ht : (pc : Int) + off = (tgt : Int)) (kt : y ≤ x → zB X ws ck sn tgt lv st) (kf : ¬ (y ≤ x) → zB X ws ck sn (pc + 3) lv st) : zB X ws ck sn pc lv (zi y :: zi x :: st) := by
  obtain ⟨p, l', e, R, s, m, args, below, meth, c, D, ids, A, Q⟩ := X
  obtain ⟨rfl, hx, hb, hml, hown, hts, hK, hA, hE, hR1, hR2, hR3, hR4⟩ := C
  intro hV H locs ls hP hD hS hL
  have h1 : i32 x := hV.2.1 x (List.mem_cons_of_mem _ List.mem_cons_self)
  have h2 : i32 y := hV.2.1 y List.mem_cons_self
  have e := zi_le h2 h1
  refine lv_icmp_ge hx hb d ht (fun q => ?_) (fun q => ?_)
  · exact kt (e.mp q) (zRV_sub hV zt2) H locs ls hP hD hS hL
  · exact kf (fun z => q (e.mpr z)) (zRV_sub hV zt2) H locs ls hP hD hS hL
theorem zb_icmp_gt (C : zOc X l cc nL own f kc ks w) {x y : Int} {off : Int} {tgt : Nat} (d : decode cc pc = .ok (.if_icmp .gt off, 3)) (ht : (pc : Int) + off = (tgt : Int)) (kt : y < x → zB X ws ck sn tgt lv st) (kf : ¬ (y < x) → zB X ws ck sn (pc + 3) lv st) : zB X ws ck sn pc lv (zi y :: zi x :: st) := by
  obtain ⟨p, l', e, R, s, m, args, below, meth, c, D, ids, A, Q⟩ := X
  obtain ⟨rfl, hx, hb, hml, hown, hts, hK, hA, hE, hR1, hR2, hR3, hR4⟩ := C
  intro hV H locs ls hP hD hS hL
  have h1 : i32 x := hV.2.1 x (List.mem_cons_of_mem _ List.mem_cons_self)
  have h2 : i32 y := hV.2.1 y List.mem_cons_self
  have e := zi_lt h2 h1
  refine lv_icmp_gt hx hb d ht (fun q => ?_) (fun q => ?_)
  · exact kt (e.mp q) (zRV_sub hV zt2) H locs ls hP hD hS hL
  · exact kf (fun z => q (e.mpr z)) (zRV_sub hV zt2) H locs ls hP hD hS hL
theorem zb_icmp_eq (C : zOc X l cc nL own f kc ks w) {x y : Int} {off : Int} {tgt : Nat} (d : decode cc pc = .ok (.if_icmp .eq off, 3)) (ht : (pc : Int) + off = (tgt : Int)) (kt : x = y → zB X ws ck sn tgt lv st) (kf : ¬ (x = y) → zB X ws ck sn (pc + 3) lv st) : zB X ws ck sn pc lv (zi y :: zi x :: st) := by
  obtain ⟨p, l', e, R, s, m, args, below, meth, c, D, ids, A, Q⟩ := X
  obtain ⟨rfl, hx, hb, hml, hown, hts, hK, hA, hE, hR1, hR2, hR3, hR4⟩ := C
  intro hV H locs ls hP hD hS hL
  have h1 : i32 x := hV.2.1 x (List.mem_cons_of_mem _ List.mem_cons_self)
  have h2 : i32 y := hV.2.1 y List.mem_cons_self
  have e := zi_eq h1 h2
  refine lv_icmp_eq hx hb d ht (fun q => ?_) (fun q => ?_)
  · exact kt (e.mp q) (zRV_sub hV zt2) H locs ls hP hD hS hL
  · exact kf (fun z => q (e.mpr z)) (zRV_sub hV zt2) H locs ls hP hD hS hL
theorem zb_tabIn (C : zOc X l cc nL own f kc ks w) {dflt lo hi off : Int} {offs : Array Int} {len tgt : Nat} {x : Int} (d : decode cc pc = .ok (.tableswitch dflt lo hi offs, len)) (h1 : ¬ x < lo) (h2 : ¬ hi < x) (ho : offs[(x - lo).toNat]? = some off) (ht : (pc : Int) + off = (tgt : Int)) (k : zB X ws ck sn tgt lv st) : zB X ws ck sn pc lv (zi x :: st) := by
  obtain ⟨p, l', e, R, s, m, args, below, meth, c, D, ids, A, Q⟩ := X
  obtain ⟨rfl, hx, hb, hml, hown, hts, hK, hA, hE, hR1, hR2, hR3, hR4⟩ := C
  intro hV H locs ls hP hD hS hL
  have h3 : i32 x := hV.2.1 x List.mem_cons_self
  exact lv_tableIn hx hb d (by rw [zi_to h3]; exact h1) (by rw [zi_to h3]; exact h2) (by rw [zi_to h3]; exact ho) ht (k (zRV_sub hV zt1) H locs ls hP hD hS hL)
theorem zb_tabOut (C : zOc X l cc nL own f kc ks w) {dflt lo hi : Int} {offs : Array Int} {len tgt : Nat} {x : Int} (d : decode cc pc = .ok (.tableswitch dflt lo hi offs, len)) (h : x < lo ∨ hi < x) (ht : (pc : Int) + dflt = (tgt : Int)) (k : zB X ws ck sn tgt lv st) : zB X ws ck sn pc lv (zi x :: st) := by
  obtain ⟨p, l', e, R, s, m, args, below, meth, c, D, ids, A, Q⟩ := X
  obtain ⟨rfl, hx, hb, hml, hown, hts, hK, hA, hE, hR1, hR2, hR3, hR4⟩ := C
  intro hV H locs ls hP hD hS hL
  have h1 : i32 x := hV.2.1 x List.mem_cons_self
  exact lv_tableOut hx hb d (by rw [zi_to h1]; exact h) ht (k (zRV_sub hV zt1) H locs ls hP hD hS hL)
end ZB
