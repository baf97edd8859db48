/-! printed by gen/law3.py: rows for the law; a number of the script; the first state -/
theorem tl_0 : (Jvm.Cond.initialized "BarStripsLaw") ∈ lw_g := lw_g_in (lw_t_in (List.mem_of_getElem? (i := 0) (by decide +kernel))) rfl
theorem tl_257 : (Jvm.Cond.methodLink "BarStripsLaw" (94 : Nat) ({ cls := "BarStripsLaw", name := "cell", desc := "([II)I" } : Jvm.MethodName)) ∈ lw_g := lw_g_in (lw_t_in (List.mem_of_getElem? (i := 257) (by decide +kernel))) rfl
theorem tl_258 : (Jvm.Cond.static ({ cls := "BarStripsLaw", name := "cell", desc := "([II)I" } : Jvm.MethodName)) ∈ lw_g := lw_g_in (lw_t_in (List.mem_of_getElem? (i := 258) (by decide +kernel))) rfl
theorem tl_259 : (Jvm.Cond.code ({ cls := "BarStripsLaw", name := "cell", desc := "([II)I" } : Jvm.MethodName) method_2_code (2 : Nat) (Option.some Jvm.ClassFile.FieldType.int)) ∈ lw_g := lw_g_in (lw_t_in (List.mem_of_getElem? (i := 259) (by decide +kernel))) rfl
theorem tl_454 : (Jvm.Cond.methodLink "BarStripsLaw" (97 : Nat) ({ cls := "BarStripsLaw", name := "does", desc := "(LBarStrips;I)I" } : Jvm.MethodName)) ∈ lw_g := lw_g_in (lw_t_in (List.mem_of_getElem? (i := 454) (by decide +kernel))) rfl
theorem tl_455 : (Jvm.Cond.static ({ cls := "BarStripsLaw", name := "does", desc := "(LBarStrips;I)I" } : Jvm.MethodName)) ∈ lw_g := lw_g_in (lw_t_in (List.mem_of_getElem? (i := 455) (by decide +kernel))) rfl
theorem tl_456 : (Jvm.Cond.code ({ cls := "BarStripsLaw", name := "does", desc := "(LBarStrips;I)I" } : Jvm.MethodName) method_6_code (4 : Nat) (Option.some Jvm.ClassFile.FieldType.int)) ∈ lw_g := lw_g_in (lw_t_in (List.mem_of_getElem? (i := 456) (by decide +kernel))) rfl
theorem tl_600 : (Jvm.Cond.methodLink "BarStripsLaw" (104 : Nat) ({ cls := "BarStripsLaw", name := "isArrowSo", desc := "(LBarStrips;I)Z" } : Jvm.MethodName)) ∈ lw_g := lw_g_in (lw_t_in (List.mem_of_getElem? (i := 600) (by decide +kernel))) rfl
theorem tl_601 : (Jvm.Cond.static ({ cls := "BarStripsLaw", name := "isArrowSo", desc := "(LBarStrips;I)Z" } : Jvm.MethodName)) ∈ lw_g := lw_g_in (lw_t_in (List.mem_of_getElem? (i := 601) (by decide +kernel))) rfl
theorem tl_602 : (Jvm.Cond.code ({ cls := "BarStripsLaw", name := "isArrowSo", desc := "(LBarStrips;I)Z" } : Jvm.MethodName) method_7_code (16 : Nat) (Option.some Jvm.ClassFile.FieldType.boolean)) ∈ lw_g := lw_g_in (lw_t_in (List.mem_of_getElem? (i := 602) (by decide +kernel))) rfl
theorem tl_611 : (Jvm.Cond.methodLink "BarStripsLaw" (100 : Nat) ({ cls := "BarStripsLaw", name := "isChartSo", desc := "(LBarStrips;)Z" } : Jvm.MethodName)) ∈ lw_g := lw_g_in (lw_t_in (List.mem_of_getElem? (i := 611) (by decide +kernel))) rfl
theorem tl_612 : (Jvm.Cond.static ({ cls := "BarStripsLaw", name := "isChartSo", desc := "(LBarStrips;)Z" } : Jvm.MethodName)) ∈ lw_g := lw_g_in (lw_t_in (List.mem_of_getElem? (i := 612) (by decide +kernel))) rfl
theorem tl_613 : (Jvm.Cond.code ({ cls := "BarStripsLaw", name := "isChartSo", desc := "(LBarStrips;)Z" } : Jvm.MethodName) method_8_code (14 : Nat) (Option.some Jvm.ClassFile.FieldType.boolean)) ∈ lw_g := lw_g_in (lw_t_in (List.mem_of_getElem? (i := 613) (by decide +kernel))) rfl
theorem tl_646 : (Jvm.Cond.methodLink "BarStripsLaw" (108 : Nat) ({ cls := "BarStripsLaw", name := "isSlipSo", desc := "(LBarStrips;I)Z" } : Jvm.MethodName)) ∈ lw_g := lw_g_in (lw_t_in (List.mem_of_getElem? (i := 646) (by decide +kernel))) rfl
theorem tl_647 : (Jvm.Cond.static ({ cls := "BarStripsLaw", name := "isSlipSo", desc := "(LBarStrips;I)Z" } : Jvm.MethodName)) ∈ lw_g := lw_g_in (lw_t_in (List.mem_of_getElem? (i := 647) (by decide +kernel))) rfl
theorem tl_648 : (Jvm.Cond.code ({ cls := "BarStripsLaw", name := "isSlipSo", desc := "(LBarStrips;I)Z" } : Jvm.MethodName) method_9_code (13 : Nat) (Option.some Jvm.ClassFile.FieldType.boolean)) ∈ lw_g := lw_g_in (lw_t_in (List.mem_of_getElem? (i := 648) (by decide +kernel))) rfl
theorem tl_661 : (Jvm.Cond.methodLink "BarStripsLaw" (111 : Nat) ({ cls := "BarStripsLaw", name := "areBestSo", desc := "(LBarStrips;II)Z" } : Jvm.MethodName)) ∈ lw_g := lw_g_in (lw_t_in (List.mem_of_getElem? (i := 661) (by decide +kernel))) rfl
theorem tl_662 : (Jvm.Cond.static ({ cls := "BarStripsLaw", name := "areBestSo", desc := "(LBarStrips;II)Z" } : Jvm.MethodName)) ∈ lw_g := lw_g_in (lw_t_in (List.mem_of_getElem? (i := 662) (by decide +kernel))) rfl
theorem tl_663 : (Jvm.Cond.code ({ cls := "BarStripsLaw", name := "areBestSo", desc := "(LBarStrips;II)Z" } : Jvm.MethodName) method_10_code (18 : Nat) (Option.some Jvm.ClassFile.FieldType.boolean)) ∈ lw_g := lw_g_in (lw_t_in (List.mem_of_getElem? (i := 663) (by decide +kernel))) rfl
theorem ck_L_94 : zCb RL 94 yL_cell cL_cell 2 (some .int) 2 := ⟨tl_257, tl_0, tl_259, by decide +kernel⟩
theorem st_L_cell : Cond.static yL_cell ∈ lw_g := tl_258
theorem ck_L_97 : zCb RL 97 yL_does cL_does 4 (some .int) 2 := ⟨tl_454, tl_0, tl_456, by decide +kernel⟩
theorem st_L_does : Cond.static yL_does ∈ lw_g := tl_455
theorem ck_L_100 : zCb RL 100 yL_isChartSo cL_isChartSo 14 (some .boolean) 1 := ⟨tl_611, tl_0, tl_613, by decide +kernel⟩
theorem st_L_isChartSo : Cond.static yL_isChartSo ∈ lw_g := tl_612
theorem ck_L_104 : zCb RL 104 yL_isArrowSo cL_isArrowSo 16 (some .boolean) 2 := ⟨tl_600, tl_0, tl_602, by decide +kernel⟩
theorem st_L_isArrowSo : Cond.static yL_isArrowSo ∈ lw_g := tl_601
theorem ck_L_108 : zCb RL 108 yL_isSlipSo cL_isSlipSo 13 (some .boolean) 2 := ⟨tl_646, tl_0, tl_648, by decide +kernel⟩
theorem st_L_isSlipSo : Cond.static yL_isSlipSo ∈ lw_g := tl_647
theorem ck_L_111 : zCb RL 111 yL_areBestSo cL_areBestSo 18 (some .boolean) 3 := ⟨tl_661, tl_0, tl_663, by decide +kernel⟩
theorem st_L_areBestSo : Cond.static yL_areBestSo ∈ lw_g := tl_662
def zXs : zY → Nat → Nat → (Nat → Int32) → Prop
  | (p, l, e, R, s, m, args, below, meth, c, D, ids, A, Q), b, L, xs => va_X b L xs s s.heap ∧ b < s.heap.size ∧ ¬ A b
section ZB
variable {X : zY} {l : Launch} {cc : ByteArray} {nL : Nat} {own : String} {f kc ks w : Nat} {ws : va_W} {ck sn pc : Nat} {lv lv' : List (Option zV)} {st : List zV} {b L : Nat} {xs : Nat → Int32}
theorem zb_sld (C : zOc X l cc nL own f kc ks w) (hXs : zXs X b L xs) {z : Int} (h0 : 0 ≤ z) (h1 : z < L) (d : decode cc pc = .ok (.iaload, 1)) (k : zB X ws ck sn (pc + 1) lv (zi (xs z.toNat).toInt :: st)) : zB X ws ck sn pc lv (zi z :: zr b :: st) := by
  obtain ⟨p, l', e, R, s, m, args, below, meth, c, D, ids, A, Q⟩ := X
  obtain ⟨rfl, hx, hb, hml, hown, hts, hK, hA, hE, hR1, hR2, hR3, hR4⟩ := C
  obtain ⟨x1, x2, x3⟩ := hXs
  intro hV H locs ls hP hD hS hL
  have hz : i32 z := hV.2.1 z List.mem_cons_self
  refine va_sld hx hb x1 x2 x3 hS (zi_in hz h0 h1) d ?_
  rw [zi_nat hz h0]
  have k2 := k (zRV_i hV (zi_rng _) zt2) H locs ls hP hD hS hL
  rw [List.map_cons] at k2
  simp only [zcv, zi_of] at k2
  exact k2
theorem zb_slen (C : zOc X l cc nL own f kc ks w) (hXs : zXs X b L xs) (hL : L ≤ 100000) (d : decode cc pc = .ok (.arraylength, 1)) (k : zB X ws ck sn (pc + 1) lv (zi L :: st)) : zB X ws ck sn pc lv (zr b :: st) := by
  obtain ⟨p, l', e, R, s, m, args, below, meth, c, D, ids, A, Q⟩ := X
  obtain ⟨rfl, hx, hb, hml, hown, hts, hK, hA, hE, hR1, hR2, hR3, hR4⟩ := C
  obtain ⟨x1, x2, x3⟩ := hXs
  intro hV H locs ls hP hD hS hLs
  refine va_slen hx hb x1 x2 x3 hS d ?_
  have k2 := k (zRV_i hV (show i32 (L : Int) by omega) zt1) H locs ls hP hD hS hLs
  rw [List.map_cons] at k2
  simp only [zcv, Int32.ofInt_eq_ofNat] at k2
  exact k2
end ZB
theorem zI_nr {Φ : Int → zM → Prop} : ∀ v M', zI Φ v M' → ∀ j, v ≠ zr j := fun v M' h j e => by
  obtain ⟨z, rfl, _⟩ := h
  cases e
section ZB
variable {X : zY} {l : Launch} {cc : ByteArray} {nL : Nat} {own : String} {f kc ks w : Nat} {ws wr : va_W} {ck sn pc : Nat} {lv lv' : List (Option zV)} {st : List zV} {b L : Nat} {xs : Nat → Int32}
theorem zb_iload (C : zOc X l cc nL own f kc ks w) {i : Nat} {x : Int} (d : decode cc pc = .ok (.iload i, 2)) (hg : lv[i]? = some (some (zi x))) (k : zB X ws ck sn (pc + 2) lv (zi x :: st)) : zB X ws ck sn pc lv st := by
  obtain ⟨p, l', e, R, s, m, args, below, meth, c, D, ids, A, Q⟩ := X
  obtain ⟨rfl, hx, hb, hml, hown, hts, hK, hA, hE, hR1, hR2, hR3, hR4⟩ := C
  intro hV H locs ls hP hD hS hL
  refine lv_iload hx hb d (hL.2.2 i _ hg) ?_
  exact k (zRV_i hV (hV.1 x (List.mem_of_getElem? hg)) zt0) H locs ls hP hD hS hL
theorem zb_istore (C : zOc X l cc nL own f kc ks w) {i : Nat} {x : Int} (d : decode cc pc = .ok (.istore i, 2)) (hi2 : i < lv.length) (hl : lv.set i (some (zi x)) = lv') (k : zB X ws ck sn (pc + 2) lv' (st)) : zB X ws ck sn pc lv (zi x :: st) := by
  obtain ⟨p, l', e, R, s, m, args, below, meth, c, D, ids, A, Q⟩ := X
  obtain ⟨rfl, hx, hb, hml, hown, hts, hK, hA, hE, hR1, hR2, hR3, hR4⟩ := C
  intro hV H locs ls hP hD hS hL
  subst hl
  refine lv_istore hx hb d (zL_to hL) hi2 rfl (fun ls' hl' => ?_)
  have hL' := zL_store (ad := fun a => a) (v := zi x) hV.2.2 hi2 hl'
  exact k (zRV_set hV List.mem_cons_self zt1 (fun d h => by cases h)) H locs ls' hP hD hS hL'
theorem zb_if_eq (C : zOc X l cc nL own f kc ks w) {x : Int} {off : Int} {tgt : Nat} (d : decode cc pc = .ok (.ifCond .eq off, 3)) (ht : (pc : Int) + off = (tgt : Int)) (kt : x = 0 → zB X ws ck sn tgt lv st) (kf : ¬ (x = 0) → zB X ws ck sn (pc + 3) lv st) : zB X ws ck sn pc lv (zi x :: st) := by
  obtain ⟨p, l', e, R, s, m, args, below, meth, c, D, ids, A, Q⟩ := X
  obtain ⟨rfl, hx, hb, hml, hown, hts, hK, hA, hE, hR1, hR2, hR3, hR4⟩ := C
  intro hV H locs ls hP hD hS hL
  have h1 : i32 x := hV.2.1 x List.mem_cons_self
  have h2 : i32 0 := by decide
  have e := zi_eq h1 h2
  refine lv_if_eq hx hb d ht (fun q => ?_) (fun q => ?_)
  · exact kt (e.mp q) (zRV_sub hV zt1) H locs ls hP hD hS hL
  · exact kf (fun z => q (e.mpr z)) (zRV_sub hV zt1) H locs ls hP hD hS hL
theorem zb_if_ne (C : zOc X l cc nL own f kc ks w) {x : Int} {off : Int} {tgt : Nat} (d : decode cc pc = .ok (.ifCond .ne off, 3)) (ht : (pc : Int) + off = (tgt : Int)) (kt : ¬ x = 0 → zB X ws ck sn tgt lv st) (kf : x = 0 → zB X ws ck sn (pc + 3) lv st) : zB X ws ck sn pc lv (zi x :: st) := by
  obtain ⟨p, l', e, R, s, m, args, below, meth, c, D, ids, A, Q⟩ := X
  obtain ⟨rfl, hx, hb, hml, hown, hts, hK, hA, hE, hR1, hR2, hR3, hR4⟩ := C
  intro hV H locs ls hP hD hS hL
  have h1 : i32 x := hV.2.1 x List.mem_cons_self
  have h2 : i32 0 := by decide
  have e := not_congr (zi_eq h1 h2)
  refine lv_if_ne hx hb d ht (fun q => ?_) (fun q => ?_)
  · exact kt (e.mp q) (zRV_sub hV zt1) H locs ls hP hD hS hL
  · exact kf (zi_eq h1 h2 |>.mp q) (zRV_sub hV zt1) H locs ls hP hD hS hL
theorem zb_if_lt (C : zOc X l cc nL own f kc ks w) {x : Int} {off : Int} {tgt : Nat} (d : decode cc pc = .ok (.ifCond .lt off, 3)) (ht : (pc : Int) + off = (tgt : Int)) (kt : x < 0 → zB X ws ck sn tgt lv st) (kf : ¬ (x < 0) → zB X ws ck sn (pc + 3) lv st) : zB X ws ck sn pc lv (zi x :: st) := by
  obtain ⟨p, l', e, R, s, m, args, below, meth, c, D, ids, A, Q⟩ := X
  obtain ⟨rfl, hx, hb, hml, hown, hts, hK, hA, hE, hR1, hR2, hR3, hR4⟩ := C
  intro hV H locs ls hP hD hS hL
  have h1 : i32 x := hV.2.1 x List.mem_cons_self
  have h2 : i32 0 := by decide
  have e := zi_lt h1 h2
  refine lv_if_lt hx hb d ht (fun q => ?_) (fun q => ?_)
  · exact kt (e.mp q) (zRV_sub hV zt1) H locs ls hP hD hS hL
  · exact kf (fun z => q (e.mpr z)) (zRV_sub hV zt1) H locs ls hP hD hS hL
theorem zb_icmp_ne (C : zOc X l cc nL own f kc ks w) {x y : Int} {off : Int} {tgt : Nat} (d : decode cc pc = .ok (.if_icmp .ne off, 3)) (ht : (pc : Int) + off = (tgt : Int)) (kt : ¬ x = y → zB X ws ck sn tgt lv st) (kf : x = y → zB X ws ck sn (pc + 3) lv st) : zB X ws ck sn pc lv (zi y :: zi x :: st) := by
  obtain ⟨p, l', e, R, s, m, args, below, meth, c, D, ids, A, Q⟩ := X
  obtain ⟨rfl, hx, hb, hml, hown, hts, hK, hA, hE, hR1, hR2, hR3, hR4⟩ := C
  intro hV H locs ls hP hD hS hL
  have h1 : i32 x := hV.2.1 x (List.mem_cons_of_mem _ List.mem_cons_self)
  have h2 : i32 y := hV.2.1 y List.mem_cons_self
  have e := not_congr (zi_eq h1 h2)
  refine lv_icmp_ne hx hb d ht (fun q => ?_) (fun q => ?_)
  · exact kt (e.mp q) (zRV_sub hV zt2) H locs ls hP hD hS hL
  · exact kf (zi_eq h1 h2 |>.mp q) (zRV_sub hV zt2) H locs ls hP hD hS hL
theorem zb_irem (C : zOc X l cc nL own f kc ks w) {x y : Int} (d : decode cc pc = .ok (.irem, 1)) (h0 : 0 ≤ x) (h1 : 0 < y) (k : zB X ws ck sn (pc + 1) lv (zi (x % y) :: st)) : zB X ws ck sn pc lv (zi y :: zi x :: st) := by
  obtain ⟨p, l', e, R, s, m, args, below, meth, c, D, ids, A, Q⟩ := X
  obtain ⟨rfl, hx, hb, hml, hown, hts, hK, hA, hE, hR1, hR2, hR3, hR4⟩ := C
  intro hV H locs ls hP hD hS hL
  have hx1 : i32 x := hV.2.1 x (List.mem_cons_of_mem _ List.mem_cons_self)
  have hy1 : i32 y := hV.2.1 y List.mem_cons_self
  have hne : ¬ Int32.ofInt y = 0 := by
    have := zi_eq hy1 (show i32 0 by decide)
    intro e
    have := this.mp e
    omega
  refine lv_irem hx hb d hne ?_
  rw [z_rem hx1 hy1 h0 h1]
  exact k (zRV_i hV ⟨by have := Int.emod_nonneg x (Int.ne_of_gt h1); omega, by have := Int.emod_lt_of_pos x h1; omega⟩ zt2) H locs ls hP hD hS hL
theorem zb_ishr (C : zOc X l cc nL own f kc ks w) {x y : Int} (d : decode cc pc = .ok (.ishr, 1)) (k : zB X ws ck sn (pc + 1) lv (zi (zshr x y) :: st)) : zB X ws ck sn pc lv (zi y :: zi x :: st) := by
  obtain ⟨p, l', e, R, s, m, args, below, meth, c, D, ids, A, Q⟩ := X
  obtain ⟨rfl, hx, hb, hml, hown, hts, hK, hA, hE, hR1, hR2, hR3, hR4⟩ := C
  intro hV H locs ls hP hD hS hL
  refine lv_ishr hx hb d ?_
  have k2 := k (zRV_i hV (zi_rng _) zt2) H locs ls hP hD hS hL
  rw [List.map_cons] at k2
  unfold zshr at k2
  simp only [zcv, zi_of] at k2
  exact k2
theorem zb_imul (C : zOc X l cc nL own f kc ks w) {x y : Int} (d : decode cc pc = .ok (.imul, 1)) (h : i32 (x * y)) (k : zB X ws ck sn (pc + 1) lv (zi (x * y) :: st)) : zB X ws ck sn pc lv (zi y :: zi x :: st) := by
  obtain ⟨p, l', e, R, s, m, args, below, meth, c, D, ids, A, Q⟩ := X
  obtain ⟨rfl, hx, hb, hml, hown, hts, hK, hA, hE, hR1, hR2, hR3, hR4⟩ := C
  intro hV H locs ls hP hD hS hL
  refine lv_imul hx hb d ?_
  rw [zi_mul]
  exact k (zRV_i hV h zt2) H locs ls hP hD hS hL
theorem zb_weak (lv' : List (Option zV)) (h : zwk lv lv') (k : zB X ws ck sn pc lv' st) : zB X ws ck sn pc lv st := by
  obtain ⟨p, l', e, R, s, m, args, below, meth, c, D, ids, A, Q⟩ := X
  intro hV H locs ls hP hD hS hL
  obtain ⟨h1, h2⟩ := zwk_len h
  refine k ⟨fun x hx => ?_, hV.2.1, fun d hd => ?_⟩ H locs ls hP hD hS ⟨hL.1.trans h1, hL.2.1, fun i v hi => hL.2.2 i v (h2 i v hi)⟩
  · obtain ⟨i, hi⟩ := List.getElem?_of_mem hx
    exact hV.1 x (List.mem_of_getElem? (h2 i _ hi))
  · obtain ⟨i, hi⟩ := List.getElem?_of_mem hd
    exact hV.2.2 d (List.mem_of_getElem? (h2 i _ hi))
theorem zb_callS (C : zOc X l cc nL own f kc ks w) {idx n maxL f' w' : Nat} {y : MethodName} {bytes : ByteArray} {ret' : Option FieldType} {F' : zV → zM → Prop} {As st0 : List zV} {ad : Nat → Nat} {M : zM} {shp : zS} (hM : zRM M) (hm : zMet l y bytes maxL ret' f' w' shp As M F') (hc : zCb own idx y bytes maxL ret' n) (hv : Cond.static y ∈ lw_g) (hn : As.length = n) (hra : ∀ x, Sum.inl x ∈ As → Sum.inl x ∈ st0) (hroom : f' + 1 ≤ f ∧ 8 + (maxL + 11) + w' ≤ w) (hst : st0.map (zcv (fun a => a)) = (As.map (zcv ad)).reverse ++ st.map (zcv (fun a => a))) (hsub : ∀ v ∈ st, v ∈ st0) (hlv : lv.length = nL) (h8 : zcs st ≤ 8) (d : decode cc pc = .ok (.invokestatic idx, 3)) (hcks : ck ≤ kc ∧ sn ≤ ks) (hnr : ∀ v M', F' v M' → ∀ j, v ≠ zr j)
    (k : ∀ (v : zV) (M' : zM), zRM M' → F' v M' → zB X (zW (zYi X) ad M' shp ++ wr) ck sn (pc + 3) lv (zres ret' v st)) : zB X (zW (zYi X) ad M shp ++ wr) ck sn pc lv st0 := by
  obtain ⟨p, l', e, R, s, m, args, below, meth, c, D, ids, A, Q⟩ := X
  obtain ⟨rfl, hx, hb, hml, hown, hts, hK, hA, hE, hR1, hR2, hR3, hR4⟩ := C
  intro hV H locs ls hP hD hS hL
  obtain ⟨c1, c2, c3, c4⟩ := hc
  have hcut := z_cut hP hD
  have hmet := hm hM (fun x hx => hV.2.1 x (hra x hx)) D ids ad H.size
  rw [hst]
  refine z_afterG (ret' := ret') (F' := F') (va_runS (As := As.map (zcv ad)) (rest := st.map (zcv (fun a => a))) (own := own) (nL := nL) ⟨hx, hb, hml, hown, hts⟩ hmet ⟨callB_of n hts (z_good c3) rfl rfl rfl (hts _ c2) (hts _ c1) c4 ⟨Nat.le_trans hroom.1 hR1, Nat.le_trans hroom.2 hR4⟩, hts _ hv⟩ ⟨z_blind, fun U hU hW => ⟨rfl, by rw [hU], by rw [hU]; exact hcut.1, va_K.moved hW.alike hK, hcut.2.weaken (fun _ _ _ _ => trivial), hE.1.warm hW⟩⟩ rfl (by rw [List.length_map]; exact hn) (hL.1.trans hlv) rfl (lv_room (by rw [zcs_eq]; exact h8)) d ⟨Nat.le_trans hcks.1 hR2, Nat.le_trans hcks.2 hR3⟩) hS hP hD hA (fun v M' H1 locs1 hz hM' hF' hP1 hD1 hS1 => ?_)
  have hV' : zRV lv st := zRV_sub hV hsub
  have k2 := k v M' hM' hF' (z_res hV' hz) H1 locs1 ls hP1 hD1 hS1 hL
  have e1 : zcv ad v = zcv (fun a => a) v := by
    rcases v with x | j | dd
    · rfl
    · exact absurd rfl (hnr _ _ hF' j)
    · rfl
  cases ret' with
  | none => exact k2
  | some ty =>
    show W p _ e R s m args below meth c H1 locs1 ck sn Q (F0 m (pc + 3) ls (zcv ad v :: st.map (zcv (fun a => a))))
    rw [e1]
    exact k2
end ZB
theorem zas0 {i : Nat} {st : List zV} : ∀ x, Sum.inl x ∈ [zr i] → (Sum.inl x : zV) ∈ st := fun x h => by
  rcases List.mem_cons.mp h with e | h
  · cases e
  · exact (List.not_mem_nil h).elim
theorem zas1 {i : Nat} {a : Int} {st : List zV} : ∀ x, Sum.inl x ∈ [zr i, zi a] → (Sum.inl x : zV) ∈ (zi a :: st) := fun x h => by
  rcases List.mem_cons.mp h with e | h
  · cases e
  · rcases List.mem_cons.mp h with e | h
    · rw [e]; exact List.mem_cons_self
    · exact (List.not_mem_nil h).elim
theorem zas2 {i : Nat} {a c : Int} {st : List zV} : ∀ x, Sum.inl x ∈ [zr i, zi a, zi c] → (Sum.inl x : zV) ∈ (zi c :: zi a :: st) := fun x h => by
  rcases List.mem_cons.mp h with e | h
  · cases e
  · rcases List.mem_cons.mp h with e | h
    · rw [e]; exact List.mem_cons_of_mem _ List.mem_cons_self
    · rcases List.mem_cons.mp h with e | h
      · rw [e]; exact List.mem_cons_self
      · exact (List.not_mem_nil h).elim
/-! a number of the script -/
theorem cell_rng {k : Int} (k0 : 0 ≤ k) (k1 : k < 48) : i32 (7919 * (k + 3) * (k + 11)) := by
  have h1 : 7919 * (k + 3) * (k + 11) ≤ 395950 * 58 := Int.mul_le_mul (by omega) (by omega) (by omega) (by omega)
  have h2 : 0 ≤ 7919 * (k + 3) * (k + 11) := Int.mul_nonneg (by omega) (by omega)
  omega
def zCelP (D : va_G) (ids : Nat → ClassId) (b L sz : Nat) (xs : Nat → Int32) : State → Prop := fun U => U.heap.size = sz ∧ va_K D vwCl (zT ids) U ∧ zE U ∧ va_X b L xs U U.heap ∧ b < U.heap.size
set_option maxRecDepth 100000 in
theorem cell_met (l : Launch) (D : va_G) (ids : Nat → ClassId) (b L : Nat) (xs : Nat → Int32) (k : Int) (sz : Nat) (k0 : 0 ≤ k) (k1 : k < 48) (hL : L ≤ 260) : Met l yL_cell (.code yL_cell cL_cell 2 (some .int) :: lw_g) ({ frames := 0, cells := 0, slots := 0, locals := 0 } : Room)
    (va_Pc [.ref b, .int (Int32.ofInt k)] (zCelP D ids b L sz xs)) (zPost ids (fun a => a) D [] (some .int) (va_A (zW ids (fun a => a) (fun _ _ => 0) []) sz) (fun v _ => ∃ z, v = zi z)) 0 0 (va_A (zW ids (fun a => a) (fun _ _ => 0) []) sz) := by
  refine Met.ofW (cc := cL_cell) (maxL := 2) (ret := some .int) (by decide) rfl ?_
  intro p e s m args below meth c s₁ B hml hv
  obtain ⟨rfl, hsz, hK, hE, hX, hbl⟩ := hv
  have hx := B.exec
  have hb := B.bytes
  have hr := B.returns
  have hts := atoms_spec (ws := Cond.code yL_cell cL_cell 2 (some .int) :: lw_g) B.pre
  have hown : s.vm.findClass yL_cell.cls = some m.cls := findClass_of_methodNamed B.named
  have hlocks := B.notSynchronized
  subst hsz
  have hl := lv_entry ([.ref b, .int (Int32.ofInt k)]) (n := 2) (Nat.le_of_ble_eq_true rfl)
  rw [lg_entry_eq]
  have C : zOc (p, l, e, (headSpec (Cond.code yL_cell cL_cell 2 (some .int) :: lw_g) ({ frames := 0, cells := 0, slots := 0, locals := 0 } : Room)).room, s, m, ([Value.ref b, Value.int (Int32.ofInt k)] : List Value).toArray, below, meth, c, D, ids, va_A (zW ids (fun a => a) (fun _ _ => 0) []) s.heap.size, MQ below (zPost ids (fun a => a) D [] (some .int) (va_A (zW ids (fun a => a) (fun _ _ => 0) []) s.heap.size) (fun v _ => ∃ z, v = zi z)) ([Value.ref b, Value.int (Int32.ofInt k)] : List Value).toArray s 0 0 (va_A (zW ids (fun a => a) (fun _ _ => 0) []) s.heap.size)) l cL_cell 2 "BarStripsLaw" 0 0 0 0 :=
    ⟨rfl, hx, hb, hml, hown, fun q hq => hts q (List.mem_cons_of_mem _ hq), hK, fun q hq => Or.inr hq, hE, Nat.le_refl _, Nat.le_refl _, Nat.le_refl _, Nat.le_refl _⟩
  have hXs : zXs (p, l, e, (headSpec (Cond.code yL_cell cL_cell 2 (some .int) :: lw_g) ({ frames := 0, cells := 0, slots := 0, locals := 0 } : Room)).room, s, m, ([Value.ref b, Value.int (Int32.ofInt k)] : List Value).toArray, below, meth, c, D, ids, va_A (zW ids (fun a => a) (fun _ _ => 0) []) s.heap.size, MQ below (zPost ids (fun a => a) D [] (some .int) (va_A (zW ids (fun a => a) (fun _ _ => 0) []) s.heap.size) (fun v _ => ∃ z, v = zi z)) ([Value.ref b, Value.int (Int32.ofInt k)] : List Value).toArray s 0 0 (va_A (zW ids (fun a => a) (fun _ _ => 0) []) s.heap.size)) b L xs := ⟨hX, hbl, fun z => by
    rcases z with ⟨i, q, hq⟩ | z
    · cases hq
    · omega⟩
  have hEnd : ∀ (z : Int) (lv : List (Option zV)), zB (p, l, e, (headSpec (Cond.code yL_cell cL_cell 2 (some .int) :: lw_g) ({ frames := 0, cells := 0, slots := 0, locals := 0 } : Room)).room, s, m, ([Value.ref b, Value.int (Int32.ofInt k)] : List Value).toArray, below, meth, c, D, ids, va_A (zW ids (fun a => a) (fun _ _ => 0) []) s.heap.size, MQ below (zPost ids (fun a => a) D [] (some .int) (va_A (zW ids (fun a => a) (fun _ _ => 0) []) s.heap.size) (fun v _ => ∃ z, v = zi z)) ([Value.ref b, Value.int (Int32.ofInt k)] : List Value).toArray s 0 0 (va_A (zW ids (fun a => a) (fun _ _ => 0) []) s.heap.size)) [] 0 0 24 lv [zi z] := by
    intro z lv hV H locs ls hP hD hS hL1
    exact W.iret (v := Int32.ofInt z) hx hb hr (fun t ht hW => ⟨⟨zi z, fun _ _ => 0, rfl, fun y e => (Sum.inl.inj e) ▸ hV.2.1 z List.mem_cons_self, fun _ _ => (show i32 0 by decide), ⟨z, rfl⟩, by rw [ht]; exact hP⟩, hS.F ht⟩) hS.2.2 dL_cell_24 hlocks
  generalize hXX : ((p, l, e, (headSpec (Cond.code yL_cell cL_cell 2 (some .int) :: lw_g) ({ frames := 0, cells := 0, slots := 0, locals := 0 } : Room)).room, s, m, ([Value.ref b, Value.int (Int32.ofInt k)] : List Value).toArray, below, meth, c, D, ids, va_A (zW ids (fun a => a) (fun _ _ => 0) []) s.heap.size, MQ below (zPost ids (fun a => a) D [] (some .int) (va_A (zW ids (fun a => a) (fun _ _ => 0) []) s.heap.size) (fun v _ => ∃ z, v = zi z)) ([Value.ref b, Value.int (Int32.ofInt k)] : List Value).toArray s 0 0 (va_A (zW ids (fun a => a) (fun _ _ => 0) []) s.heap.size)) : zY) = X at C hXs hEnd
  have cr := cell_rng k0 k1
  have main : zB X [] 0 0 0 [some (zr b), some (zi k)] [] := by
    refine zb_iload_n (i := 1) C dL_cell_0 rfl rfl ?_
    refine zb_aload_n (i := 0) C dL_cell_1 rfl rfl ?_
    refine zb_slen C hXs (by omega) dL_cell_2 ?_
    refine zb_icmp_ge (tgt := 12) C dL_cell_3 rfl (fun h => ?_) (fun h => ?_)
    · refine zb_sipush (x := 7919) C dL_cell_12 (by decide) (by decide) ?_
      refine zb_iload_n (i := 1) C dL_cell_15 rfl rfl ?_
      refine zb_iconst (x := 3) C dL_cell_16 (by decide) (by decide) ?_
      refine zb_iadd C dL_cell_17 (by omega) ?_
      refine zb_imul C dL_cell_18 (by omega) ?_
      refine zb_iload_n (i := 1) C dL_cell_19 rfl rfl ?_
      refine zb_bipush (x := 11) C dL_cell_20 (by decide) (by decide) ?_
      refine zb_iadd C dL_cell_22 (by omega) ?_
      refine zb_imul C dL_cell_23 cr ?_
      exact hEnd _ _
    · refine zb_aload_n (i := 0) C dL_cell_6 rfl rfl ?_
      refine zb_iload_n (i := 1) C dL_cell_7 rfl rfl ?_
      refine zb_sld C hXs k0 (by omega) dL_cell_8 ?_
      refine zb_goto (tgt := 24) C dL_cell_9 rfl ?_
      exact hEnd _ _
  subst hXX
  refine main ⟨fun x hx1 => ?_, fun x hx1 => (List.not_mem_nil hx1).elim, fun d hd => ?_⟩ s.heap [] _ (fun k q h => by cases h) ⟨fun i j p q h => (by cases h), fun k q h => (by cases h)⟩ va_S.rf ⟨hl.1, hl.2.1, fun i v hi => ?_⟩
  · rcases List.mem_cons.mp hx1 with h | h
    · cases h
    · rcases List.mem_cons.mp h with h | h
      · cases h; omega
      · exact (List.not_mem_nil h).elim
  · rcases List.mem_cons.mp hd with h | h
    · cases h
    · rcases List.mem_cons.mp h with h | h
      · cases h
      · exact (List.not_mem_nil h).elim
  · rcases i with _ | _ | i
    · cases hi
      exact hl.2.2 (0, .ref b) (List.mem_of_getElem? (i := 0) rfl)
    · cases hi
      exact hl.2.2 (1, .int (Int32.ofInt k)) (List.mem_of_getElem? (i := 1) rfl)
    · cases hi
section ZB
variable {X : zY} {l : Launch} {cc : ByteArray} {nL : Nat} {own : String} {f kc ks w : Nat} {ws wr : va_W} {ck sn pc : Nat} {lv lv' : List (Option zV)} {st : List zV} {b L : Nat} {xs : Nat → Int32}
theorem z_blc {av : List Value} {D : va_G} {ids : Nat → ClassId} {sz : Nat} : FrameBlind (va_Pc av (zCelP D ids b L sz xs)) := fun a U g mk q => by
  obtain ⟨q0, q1, qK, qE, qX, qb⟩ := q
  exact ⟨q0, q1, va_K.moved (u := U) (U := U.calling g mk a) (Vm.Alike.refl U.vm) qK, zE.same (u := U) (U := U.calling g mk a) rfl qE, va_X.moved (u := U) (U := U.calling g mk a) (Vm.Alike.refl U.vm) qX, qb⟩
theorem zb_callC (C : zOc X l cc nL "BarStripsLaw" f kc ks w) (hXs : zXs X b L xs) (hL : L ≤ 260) {k : Int} (k0 : 0 ≤ k) (k1 : k < 48) (hroom : 0 + 1 ≤ f ∧ 8 + (2 + 11) + 0 ≤ w) (hlv : lv.length = nL) (h8 : zcs st ≤ 8) (d : decode cc pc = .ok (.invokestatic 94, 3)) (hcks : ck ≤ kc ∧ sn ≤ ks)
    (kk : ∀ z : Int, zB X ws ck sn (pc + 3) lv (zi z :: st)) : zB X ws ck sn pc lv (zi k :: zr b :: st) := by
  obtain ⟨p, l', e, R, s, m, args, below, meth, c, D, ids, A, Q⟩ := X
  obtain ⟨rfl, hx, hb, hml, hown, hts, hK, hA, hE, hR1, hR2, hR3, hR4⟩ := C
  obtain ⟨x1, x2, x3⟩ := hXs
  intro hV H locs ls hP hD hS hL1
  obtain ⟨c1, c2, c3, c4⟩ := ck_L_94
  have hmet := cell_met l' D ids b L xs k H.size k0 k1 hL
  have hV' : zRV lv st := zRV_sub hV zt2
  refine z_afterG (shp := []) (wr := ws) (ad := fun a => a) (M := fun _ _ => 0) (ids := ids) (D := D) (A := A) (ret' := some .int) (F' := fun v _ => ∃ z, v = zi z) (va_runS (As := [Value.ref b, Value.int (Int32.ofInt k)]) (rest := st.map (zcv (fun a => a))) (own := "BarStripsLaw") (nL := nL) ⟨hx, hb, hml, hown, hts⟩ hmet ⟨callB_of 2 hts (z_good c3) rfl rfl rfl (hts _ c2) (hts _ c1) c4 ⟨Nat.le_trans hroom.1 hR1, Nat.le_trans hroom.2 hR4⟩, hts _ st_L_cell⟩ ⟨z_blc, fun U hU hW => ⟨rfl, by rw [hU], va_K.moved hW.alike hK, hE.warm hW, by rw [hU]; exact (va_X.moved hW.alike x1).kept (hS.2.1 b x2 x3), by rw [hU]; exact Nat.lt_of_lt_of_le x2 hS.1⟩⟩ rfl rfl (hL1.1.trans hlv) rfl (lv_room (by rw [zcs_eq]; exact h8)) d ⟨Nat.le_trans hcks.1 hR2, Nat.le_trans hcks.2 hR3⟩) hS hP hD hA (fun v M' H1 locs1 hz hM' hF' hP1 hD1 hS1 => ?_)
  obtain ⟨z, rfl⟩ := hF'
  exact kk z (zRV_i hV' (hz z rfl) zt0) H1 locs1 ls hP1 hD1 hS1 hL1
end ZB
def A00 : zA := fun k j => match k with
  | 11 => 2
  | 12 => if j = 1 then 60 else 0
  | _ => 0
theorem A00_val : Val 0 A00 := by
  refine ⟨⟨?_, ?_⟩, ⟨?_, ?_⟩, ⟨?_, ?_⟩, ⟨?_, ?_⟩, ⟨?_, ?_⟩, fun j j0 j1 => ?_, fun i j i0 ij j1 => ?_, fun j j0 j1 => ?_, fun j j0 j1 => ?_, fun i j i0 i1 => ?_, fun j j0 j1 => ?_, fun i j i0 ij j1 => ?_, fun j j0 j1 => ?_, fun j j0 j1 => ?_, fun j j0 j1 => ?_, ⟨?_, ?_⟩, ⟨?_, ?_⟩⟩
  all_goals first | (show (0 : Int) ≤ 0; decide) | (show (0 : Int) ≤ 30; decide) | (show (0 : Int) ≤ 90; decide) | (show (0 : Int) ≤ 40; decide) | (show (0 : Int) ≤ 200; decide) | (have j1 : j < 0 := j1; omega) | (have i1 : i < 0 := i1; omega) | (show (1 : Int) ≤ 2 ∧ (2 : Int) ≤ 9; decide) | (show (0 : Int) ≤ 2; decide) | (show (10 : Int) ≤ 60; decide) | (show (60 : Int) ≤ 999; decide)
theorem PX_first {Mx : zM} (hx : poX7 Mx) : PX 0 Mx := by
  obtain ⟨⟨M0, h0, hi⟩, h70, h71, h72, h73⟩ := hx
  have e0 : M0 = zup (zup (zfl (fun _ _ => 0) 8 200 2) 9 0 0) 9 1 60 := h0
  have r : ∀ i, i < 8 → ∀ x, Mx i x = 0 := fun i hi8 x => by
    rw [hi i (by omega), e0, zup_other (by omega), zup_other (by omega)]
    unfold zfl
    rw [if_neg (by omega)]
  have r8 : ∀ x, 0 ≤ x → x < 200 → Mx 8 x = 2 := fun x x0 x1 => by
    rw [hi 8 (by omega), e0, zup_other (by omega), zup_other (by omega)]
    unfold zfl
    rw [if_pos ⟨rfl, x0, x1⟩]
  have r9 : ∀ x, 0 ≤ x → x < 2 → Mx 9 x = if x = 1 then 60 else 0 := fun x x0 x1 => by
    rw [hi 9 (by omega), e0]
    by_cases e : x = 1
    · rw [if_pos e, e, zup_at]
    · rw [if_neg e, zup_ne e, show x = 0 by omega, zup_at]
  exact ⟨A00, fun _ => A00, 0, 0, A00, 0, fun _ => 0, ⟨A00_val, by omega, fun i i0 i1 => by omega, Or.inl rfl, fun z => absurd rfl z, by omega, fun i i0 i1 => by omega⟩, ⟨⟨r 0 (by omega) 0, r 0 (by omega) 1, r 0 (by omega) 6, r 0 (by omega) 7, r 0 (by omega) 13, fun j j0 j1 => r 1 (by omega) j, fun j j0 j1 => r 2 (by omega) j, fun j j0 j1 => r 3 (by omega) j, fun j j0 j1 => r 4 (by omega) j, fun j j0 j1 => r 5 (by omega) j, fun j j0 j1 => r 6 (by omega) j, fun j j0 j1 => r 7 (by omega) j, r8, r9⟩, h72, by omega, fun i i0 i1 => by omega, h70, fun z => absurd rfl z, h73, fun i i0 i1 => by omega⟩⟩
