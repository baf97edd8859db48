/-! one row an instruction, over zG -/
theorem zRV_push {lv : List (Option zV)} {st st' : List zV} (h : zRV lv st) (hs : ∀ x ∈ st', x ∈ st ∨ (∃ y, x = zi y ∧ i32 y) ∨ (∃ i, x = zr i) ∨ ∃ d, x = zd d) : zRV lv st' := by
  refine ⟨h.1, fun x hx => ?_, h.2.2⟩
  rcases hs _ hx with h1 | ⟨y, h1, h2⟩ | ⟨i, h1⟩ | ⟨d, h1⟩
  · exact h.2.1 x h1
  · cases h1; exact h2
  · cases h1
  · cases h1
theorem zRV_sub {lv : List (Option zV)} {st st' : List zV} (h : zRV lv st) (hs : ∀ x ∈ st', x ∈ st) : zRV lv st' := zRV_push h (fun x hx => Or.inl (hs x hx))
theorem zRV_i {lv : List (Option zV)} {st st' : List zV} {x : Int} (h : zRV lv st) (hx : i32 x) (hs : ∀ v ∈ st', v ∈ st) : zRV lv (zi x :: st') := zRV_push h (fun v hv => (List.mem_cons.mp hv).elim (fun e => Or.inr (Or.inl ⟨x, e, hx⟩)) (fun e => Or.inl (hs v e)))
theorem zRV_r {lv : List (Option zV)} {st st' : List zV} {i : Nat} (h : zRV lv st) (hs : ∀ v ∈ st', v ∈ st) : zRV lv (zr i :: st') := zRV_push h (fun v hv => (List.mem_cons.mp hv).elim (fun e => Or.inr (Or.inr (Or.inl ⟨i, e⟩))) (fun e => Or.inl (hs v e)))
theorem zRV_d {lv : List (Option zV)} {st st' : List zV} {x : UInt64} (h : zRV lv st) (hs : ∀ v ∈ st', v ∈ st) : zRV lv (zd x :: st') := zRV_push h (fun v hv => (List.mem_cons.mp hv).elim (fun e => Or.inr (Or.inr (Or.inr ⟨x, e⟩))) (fun e => Or.inl (hs v e)))
theorem zt1 {α : Type} {a : α} {l : List α} : ∀ v ∈ l, v ∈ a :: l := fun _ h => List.mem_cons_of_mem _ h
theorem zt2 {α : Type} {a b : α} {l : List α} : ∀ v ∈ l, v ∈ a :: b :: l := fun _ h => List.mem_cons_of_mem _ (List.mem_cons_of_mem _ h)
theorem zt3 {α : Type} {a b c : α} {l : List α} : ∀ v ∈ l, v ∈ a :: b :: c :: l := fun _ h => List.mem_cons_of_mem _ (List.mem_cons_of_mem _ (List.mem_cons_of_mem _ h))
theorem zt0 {α : Type} {l : List α} : ∀ v ∈ l, v ∈ l := fun _ h => h
theorem zNd1 {v : zV} (h : zNd [v] = true) : ∀ d, v ≠ zd d := fun d e => zNd_of h d (e ▸ List.mem_cons_self)
def zand (x y : Int) : Int := (Int32.ofInt x &&& Int32.ofInt y).toInt
def zor (x y : Int) : Int := (Int32.ofInt x ||| Int32.ofInt y).toInt
def zxor (x y : Int) : Int := (Int32.ofInt x ^^^ Int32.ofInt y).toInt
def zshl (x y : Int) : Int := (Int32.ofInt x <<< (Int32.ofInt y &&& 31)).toInt
def zshr (x y : Int) : Int := (Int32.ofInt x >>> (Int32.ofInt y &&& 31)).toInt
section ZQ
variable {X : zX} {l : Launch} {cc : ByteArray} {nL : Nat} {own : String} {ret : Option FieldType} {f w : Nat} {shp : zS} {F : zV → zM → Prop} {M : zM} {pc : Nat} {lv lv' : List (Option zV)} {st : List zV}
theorem zq_iconst (C : zOK X l cc nL own ret f w shp F) {n x : Int} (d : decode cc pc = .ok (.iconst n, 1)) (hv : Int32.ofInt n = Int32.ofInt x) (h : i32 x) (k : zG X M (pc + 1) lv (zi x :: st)) : zG X M pc lv st := by
  obtain ⟨p, l', e, R, s, m, args, below, meth, c, D, ids, ad, shp', A, F'⟩ := X
  obtain ⟨rfl, hx, hb, hml, hown, hts, hK, hD, hA, hr, hlk, hR, rfl, rfl, hN⟩ := C
  intro hM hV H locs ls hP hS hL
  refine lv_iconst (v := Int32.ofInt x) hx hb d hv ?_
  exact k hM (zRV_i hV h zt0) H locs ls hP hS hL
theorem zq_bipush (C : zOK X l cc nL own ret f w shp F) {n x : Int} (d : decode cc pc = .ok (.bipush n, 2)) (hv : (Int8.ofInt n).toInt32 = Int32.ofInt x) (h : i32 x) (k : zG X M (pc + 2) lv (zi x :: st)) : zG X M pc lv st := by
  obtain ⟨p, l', e, R, s, m, args, below, meth, c, D, ids, ad, shp', A, F'⟩ := X
  obtain ⟨rfl, hx, hb, hml, hown, hts, hK, hD, hA, hr, hlk, hR, rfl, rfl, hN⟩ := C
  intro hM hV H locs ls hP hS hL
  refine lv_bipush (v := Int32.ofInt x) hx hb d hv ?_
  exact k hM (zRV_i hV h zt0) H locs ls hP hS hL
theorem zq_sipush (C : zOK X l cc nL own ret f w shp F) {n x : Int} (d : decode cc pc = .ok (.sipush n, 3)) (hv : (Int16.ofInt n).toInt32 = Int32.ofInt x) (h : i32 x) (k : zG X M (pc + 3) lv (zi x :: st)) : zG X M pc lv st := by
  obtain ⟨p, l', e, R, s, m, args, below, meth, c, D, ids, ad, shp', A, F'⟩ := X
  obtain ⟨rfl, hx, hb, hml, hown, hts, hK, hD, hA, hr, hlk, hR, rfl, rfl, hN⟩ := C
  intro hM hV H locs ls hP hS hL
  refine lv_sipush (v := Int32.ofInt x) hx hb d hv ?_
  exact k hM (zRV_i hV h zt0) H locs ls hP hS hL
theorem zq_ldc (C : zOK X l cc nL own ret f w shp F) {index : Nat} {x : Int} {v : Int32} (hc : Cond.constant own index v ∈ lw_g) (d : decode cc pc = .ok (.ldc index, 2)) (hv : v = Int32.ofInt x) (h : i32 x) (k : zG X M (pc + 2) lv (zi x :: st)) : zG X M pc lv st := by
  obtain ⟨p, l', e, R, s, m, args, below, meth, c, D, ids, ad, shp', A, F'⟩ := X
  obtain ⟨rfl, hx, hb, hml, hown, hts, hK, hD, hA, hr, hlk, hR, rfl, rfl, hN⟩ := C
  intro hM hV H locs ls hP hS hL
  refine lv_ldc (v := v) hx hb hown (hts _ hc) d ?_
  subst hv
  exact k hM (zRV_i hV h zt0) H locs ls hP hS hL
theorem zq_ldcw (C : zOK X l cc nL own ret f w shp F) {index : Nat} {x : Int} {v : Int32} (hc : Cond.constant own index v ∈ lw_g) (d : decode cc pc = .ok (.ldc_w index, 3)) (hv : v = Int32.ofInt x) (h : i32 x) (k : zG X M (pc + 3) lv (zi x :: st)) : zG X M pc lv st := by
  obtain ⟨p, l', e, R, s, m, args, below, meth, c, D, ids, ad, shp', A, F'⟩ := X
  obtain ⟨rfl, hx, hb, hml, hown, hts, hK, hD, hA, hr, hlk, hR, rfl, rfl, hN⟩ := C
  intro hM hV H locs ls hP hS hL
  refine lv_ldcw (v := v) hx hb hown (hts _ hc) d ?_
  subst hv
  exact k hM (zRV_i hV h zt0) H locs ls hP hS hL
theorem zq_iload_n (C : zOK X l cc nL own ret f w shp F) {k1 : Fin 4} {i : Nat} {x : Int} (d : decode cc pc = .ok (.iload_n k1, 1)) (hi : (k1 : Nat) = i) (hg : lv[i]? = some (some (zi x))) (k : zG X M (pc + 1) lv (zi x :: st)) : zG X M pc lv st := by
  obtain ⟨p, l', e, R, s, m, args, below, meth, c, D, ids, ad, shp', A, F'⟩ := X
  obtain ⟨rfl, hx, hb, hml, hown, hts, hK, hD, hA, hr, hlk, hR, rfl, rfl, hN⟩ := C
  intro hM hV H locs ls hP hS hL
  refine lv_iload_n hx hb d hi (hL.2.2 i _ hg) ?_
  exact k hM (zRV_i hV (hV.1 x (List.mem_of_getElem? hg)) zt0) H locs ls hP hS hL
theorem zq_aload_n (C : zOK X l cc nL own ret f w shp F) {k1 : Fin 4} {i : Nat} {x : Nat} (d : decode cc pc = .ok (.aload_n k1, 1)) (hi : (k1 : Nat) = i) (hg : lv[i]? = some (some (zr x))) (k : zG X M (pc + 1) lv (zr x :: st)) : zG X M pc lv st := by
  obtain ⟨p, l', e, R, s, m, args, below, meth, c, D, ids, ad, shp', A, F'⟩ := X
  obtain ⟨rfl, hx, hb, hml, hown, hts, hK, hD, hA, hr, hlk, hR, rfl, rfl, hN⟩ := C
  intro hM hV H locs ls hP hS hL
  refine lv_aload_n hx hb d hi (hL.2.2 i _ hg) ?_
  exact k hM (zRV_r hV zt0) H locs ls hP hS hL
theorem zq_istore_n (C : zOK X l cc nL own ret f w shp F) {k1 : Fin 4} {i : Nat} {x : Int} (d : decode cc pc = .ok (.istore_n k1, 1)) (hi : (k1 : Nat) = i) (hi2 : i < lv.length) (hl : lv.set i (some (zi x)) = lv') (k : zG X M (pc + 1) lv' (st)) : zG X M pc lv (zi x :: st) := by
  obtain ⟨p, l', e, R, s, m, args, below, meth, c, D, ids, ad, shp', A, F'⟩ := X
  obtain ⟨rfl, hx, hb, hml, hown, hts, hK, hD, hA, hr, hlk, hR, rfl, rfl, hN⟩ := C
  intro hM hV H locs ls hP hS hL
  subst hl
  refine lv_istore_n hx hb d hi (zL_to hL) hi2 rfl (fun ls' hl' => ?_)
  have hL' := zL_store (v := zi x) hV.2.2 hi2 hl'
  exact k hM (zRV_set hV List.mem_cons_self zt1 (fun d h => by cases h)) H locs ls' hP hS hL'
theorem zq_astore_n (C : zOK X l cc nL own ret f w shp F) {k1 : Fin 4} {i : Nat} {x : Nat} (d : decode cc pc = .ok (.astore_n k1, 1)) (hi : (k1 : Nat) = i) (hi2 : i < lv.length) (hl : lv.set i (some (zr x)) = lv') (k : zG X M (pc + 1) lv' (st)) : zG X M pc lv (zr x :: st) := by
  obtain ⟨p, l', e, R, s, m, args, below, meth, c, D, ids, ad, shp', A, F'⟩ := X
  obtain ⟨rfl, hx, hb, hml, hown, hts, hK, hD, hA, hr, hlk, hR, rfl, rfl, hN⟩ := C
  intro hM hV H locs ls hP hS hL
  subst hl
  refine lv_astore_n hx hb d hi (zL_to hL) hi2 rfl (fun ls' hl' => ?_)
  have hL' := zL_store (v := zr x) hV.2.2 hi2 hl'
  exact k hM (zRV_set hV List.mem_cons_self zt1 (fun d h => by cases h)) H locs ls' hP hS hL'
theorem zq_iload (C : zOK X l cc nL own ret f w shp F) {i : Nat} {x : Int} (d : decode cc pc = .ok (.iload i, 2)) (hg : lv[i]? = some (some (zi x))) (k : zG X M (pc + 2) lv (zi x :: st)) : zG X M pc lv st := by
  obtain ⟨p, l', e, R, s, m, args, below, meth, c, D, ids, ad, shp', A, F'⟩ := X
  obtain ⟨rfl, hx, hb, hml, hown, hts, hK, hD, hA, hr, hlk, hR, rfl, rfl, hN⟩ := C
  intro hM hV H locs ls hP hS hL
  refine lv_iload hx hb d (hL.2.2 i _ hg) ?_
  exact k hM (zRV_i hV (hV.1 x (List.mem_of_getElem? hg)) zt0) H locs ls hP hS hL
theorem zq_aload (C : zOK X l cc nL own ret f w shp F) {i : Nat} {x : Nat} (d : decode cc pc = .ok (.aload i, 2)) (hg : lv[i]? = some (some (zr x))) (k : zG X M (pc + 2) lv (zr x :: st)) : zG X M pc lv st := by
  obtain ⟨p, l', e, R, s, m, args, below, meth, c, D, ids, ad, shp', A, F'⟩ := X
  obtain ⟨rfl, hx, hb, hml, hown, hts, hK, hD, hA, hr, hlk, hR, rfl, rfl, hN⟩ := C
  intro hM hV H locs ls hP hS hL
  refine lv_aload hx hb d (hL.2.2 i _ hg) ?_
  exact k hM (zRV_r hV zt0) H locs ls hP hS hL
theorem zq_istore (C : zOK X l cc nL own ret f w shp F) {i : Nat} {x : Int} (d : decode cc pc = .ok (.istore i, 2)) (hi2 : i < lv.length) (hl : lv.set i (some (zi x)) = lv') (k : zG X M (pc + 2) lv' (st)) : zG X M pc lv (zi x :: st) := by
  obtain ⟨p, l', e, R, s, m, args, below, meth, c, D, ids, ad, shp', A, F'⟩ := X
  obtain ⟨rfl, hx, hb, hml, hown, hts, hK, hD, hA, hr, hlk, hR, rfl, rfl, hN⟩ := C
  intro hM hV H locs ls hP hS hL
  subst hl
  refine lv_istore hx hb d (zL_to hL) hi2 rfl (fun ls' hl' => ?_)
  have hL' := zL_store (v := zi x) hV.2.2 hi2 hl'
  exact k hM (zRV_set hV List.mem_cons_self zt1 (fun d h => by cases h)) H locs ls' hP hS hL'
theorem zq_astore (C : zOK X l cc nL own ret f w shp F) {i : Nat} {x : Nat} (d : decode cc pc = .ok (.astore i, 2)) (hi2 : i < lv.length) (hl : lv.set i (some (zr x)) = lv') (k : zG X M (pc + 2) lv' (st)) : zG X M pc lv (zr x :: st) := by
  obtain ⟨p, l', e, R, s, m, args, below, meth, c, D, ids, ad, shp', A, F'⟩ := X
  obtain ⟨rfl, hx, hb, hml, hown, hts, hK, hD, hA, hr, hlk, hR, rfl, rfl, hN⟩ := C
  intro hM hV H locs ls hP hS hL
  subst hl
  refine lv_astore hx hb d (zL_to hL) hi2 rfl (fun ls' hl' => ?_)
  have hL' := zL_store (v := zr x) hV.2.2 hi2 hl'
  exact k hM (zRV_set hV List.mem_cons_self zt1 (fun d h => by cases h)) H locs ls' hP hS hL'
theorem zq_istoreN_n (C : zOK X l cc nL own ret f w shp F) {k1 : Fin 4} {i : Nat} {x : Int} (lf : Int → List (Option zV)) (d : decode cc pc = .ok (.istore_n k1, 1)) (hi : (k1 : Nat) = i) (hi2 : i < lv.length) (hl : ∀ v, lv.set i (some (zi v)) = lf v) (k : ∀ v, v = x → zG X M (pc + 1) (lf v) st) : zG X M pc lv (zi x :: st) := zq_istore_n C d hi hi2 (hl x) (k x rfl)
theorem zq_istoreN (C : zOK X l cc nL own ret f w shp F) {i : Nat} {x : Int} (lf : Int → List (Option zV)) (d : decode cc pc = .ok (.istore i, 2)) (hi2 : i < lv.length) (hl : ∀ v, lv.set i (some (zi v)) = lf v) (k : ∀ v, v = x → zG X M (pc + 2) (lf v) st) : zG X M pc lv (zi x :: st) := zq_istore C d hi2 (hl x) (k x rfl)
theorem zq_iinc (C : zOK X l cc nL own ret f w shp F) {i : Nat} {n x y : Int} (d : decode cc pc = .ok (.iinc i n, 3)) (hg : lv[i]? = some (some (zi x))) (hy : x + n = y) (h : i32 y) (hl : lv.set i (some (zi y)) = lv') (k : zG X M (pc + 3) lv' (st)) : zG X M pc lv st := by
  obtain ⟨p, l', e, R, s, m, args, below, meth, c, D, ids, ad, shp', A, F'⟩ := X
  obtain ⟨rfl, hx, hb, hml, hown, hts, hK, hD, hA, hr, hlk, hR, rfl, rfl, hN⟩ := C
  intro hM hV H locs ls hP hS hL
  subst hl
  subst hy
  have hi2 : i < lv.length := (List.getElem?_eq_some_iff.mp hg).1
  obtain ⟨k2, hk2⟩ := List.getElem?_of_mem (zlp_mem (ad := ad) (lv := lv) (q := (i, zcv ad (zi x))) |>.mpr ⟨zi x, hg, rfl⟩)
  refine lv_iinc (v := Int32.ofInt (x + n)) hx hb d (zL_to hL) hk2 (zi_add x n) hi2 rfl (fun ls' hl' => ?_)
  have hL' := zL_store (v := zi (x + n)) hV.2.2 hi2 hl'
  refine k hM (zRV_set (zRV_i (x := x + n) hV h (st' := st) zt0) List.mem_cons_self zt1 (fun d h => by cases h)) H locs ls' hP hS hL'
theorem zq_iadd (C : zOK X l cc nL own ret f w shp F) {x y : Int} (d : decode cc pc = .ok (.iadd, 1)) (h : i32 (x + y)) (k : zG X M (pc + 1) lv (zi (x + y) :: st)) : zG X M pc lv (zi y :: zi x :: st) := by
  obtain ⟨p, l', e, R, s, m, args, below, meth, c, D, ids, ad, shp', A, F'⟩ := X
  obtain ⟨rfl, hx, hb, hml, hown, hts, hK, hD, hA, hr, hlk, hR, rfl, rfl, hN⟩ := C
  intro hM hV H locs ls hP hS hL
  refine lv_iadd hx hb d ?_
  rw [zi_add]
  exact k hM (zRV_i hV h zt2) H locs ls hP hS hL
theorem zq_isub (C : zOK X l cc nL own ret f w shp F) {x y : Int} (d : decode cc pc = .ok (.isub, 1)) (h : i32 (x - y)) (k : zG X M (pc + 1) lv (zi (x - y) :: st)) : zG X M pc lv (zi y :: zi x :: st) := by
  obtain ⟨p, l', e, R, s, m, args, below, meth, c, D, ids, ad, shp', A, F'⟩ := X
  obtain ⟨rfl, hx, hb, hml, hown, hts, hK, hD, hA, hr, hlk, hR, rfl, rfl, hN⟩ := C
  intro hM hV H locs ls hP hS hL
  refine lv_isub hx hb d ?_
  rw [zi_sub]
  exact k hM (zRV_i hV h zt2) H locs ls hP hS hL
theorem zq_imul (C : zOK X l cc nL own ret f w shp F) {x y : Int} (d : decode cc pc = .ok (.imul, 1)) (h : i32 (x * y)) (k : zG X M (pc + 1) lv (zi (x * y) :: st)) : zG X M pc lv (zi y :: zi x :: st) := by
  obtain ⟨p, l', e, R, s, m, args, below, meth, c, D, ids, ad, shp', A, F'⟩ := X
  obtain ⟨rfl, hx, hb, hml, hown, hts, hK, hD, hA, hr, hlk, hR, rfl, rfl, hN⟩ := C
  intro hM hV H locs ls hP hS hL
  refine lv_imul hx hb d ?_
  rw [zi_mul]
  exact k hM (zRV_i hV h zt2) H locs ls hP hS hL
theorem zq_ineg (C : zOK X l cc nL own ret f w shp F) {x : Int} (d : decode cc pc = .ok (.ineg, 1)) (h : i32 (-x)) (k : zG X M (pc + 1) lv (zi (-x) :: st)) : zG X M pc lv (zi x :: st) := by
  obtain ⟨p, l', e, R, s, m, args, below, meth, c, D, ids, ad, shp', A, F'⟩ := X
  obtain ⟨rfl, hx, hb, hml, hown, hts, hK, hD, hA, hr, hlk, hR, rfl, rfl, hN⟩ := C
  intro hM hV H locs ls hP hS hL
  refine lv_ineg hx hb d ?_
  rw [zi_neg]
  exact k hM (zRV_i hV h zt1) H locs ls hP hS hL
theorem z_div {x y : Int} (hx : i32 x) (hy : i32 y) (h0 : 0 ≤ x) (h1 : 0 < y) : Int32.ofInt x / Int32.ofInt y = Int32.ofInt (x / y) := by
  obtain ⟨a, rfl⟩ := Int.eq_ofNat_of_zero_le h0
  obtain ⟨b, rfl⟩ := Int.eq_ofNat_of_zero_le (Int.le_of_lt h1)
  have e : ∀ n : Nat, Int32.ofInt (n : Int) = nI n := fun n => by unfold nI; exact Int32.ofInt_eq_ofNat
  rw [e, e, pk_div (by omega) (by omega) (by omega), ← e]
  rfl
theorem z_rem {x y : Int} (hx : i32 x) (hy : i32 y) (h0 : 0 ≤ x) (h1 : 0 < y) : Int32.ofInt x - Int32.ofInt x / Int32.ofInt y * Int32.ofInt y = Int32.ofInt (x % y) := by
  rw [z_div hx hy h0 h1, zi_mul, zi_sub]
  congr 1
  have := Int.emod_add_mul_ediv x y
  rw [Int.mul_comm] at this
  omega
theorem zq_idiv (C : zOK X l cc nL own ret f w shp F) {x y : Int} (d : decode cc pc = .ok (.idiv, 1)) (h0 : 0 ≤ x) (h1 : 0 < y) (k : zG X M (pc + 1) lv (zi (x / y) :: st)) : zG X M pc lv (zi y :: zi x :: st) := by
  obtain ⟨p, l', e, R, s, m, args, below, meth, c, D, ids, ad, shp', A, F'⟩ := X
  obtain ⟨rfl, hx, hb, hml, hown, hts, hK, hD, hA, hr, hlk, hR, rfl, rfl, hN⟩ := C
  intro hM hV H locs ls hP hS hL
  have hx1 : i32 x := hV.2.1 x (List.mem_cons_of_mem _ List.mem_cons_self)
  have hy1 : i32 y := hV.2.1 y List.mem_cons_self
  have hne : ¬ Int32.ofInt y = 0 := by
    have := zi_eq hy1 (show i32 0 by decide)
    intro e
    have := this.mp e
    omega
  refine lv_idiv hx hb d hne ?_
  rw [z_div hx1 hy1 h0 h1]
  exact k hM (zRV_i hV ⟨by have := Int.ediv_nonneg h0 (Int.le_of_lt h1); omega, by have := Int.ediv_le_self y h0; omega⟩ zt2) H locs ls hP hS hL
theorem zq_irem (C : zOK X l cc nL own ret f w shp F) {x y : Int} (d : decode cc pc = .ok (.irem, 1)) (h0 : 0 ≤ x) (h1 : 0 < y) (k : zG X M (pc + 1) lv (zi (x % y) :: st)) : zG X M pc lv (zi y :: zi x :: st) := by
  obtain ⟨p, l', e, R, s, m, args, below, meth, c, D, ids, ad, shp', A, F'⟩ := X
  obtain ⟨rfl, hx, hb, hml, hown, hts, hK, hD, hA, hr, hlk, hR, rfl, rfl, hN⟩ := C
  intro hM hV H locs ls hP hS hL
  have hx1 : i32 x := hV.2.1 x (List.mem_cons_of_mem _ List.mem_cons_self)
  have hy1 : i32 y := hV.2.1 y List.mem_cons_self
  have hne : ¬ Int32.ofInt y = 0 := by
    have := zi_eq hy1 (show i32 0 by decide)
    intro e
    have := this.mp e
    omega
  refine lv_irem hx hb d hne ?_
  rw [z_rem hx1 hy1 h0 h1]
  exact k hM (zRV_i hV ⟨by have := Int.emod_nonneg x (Int.ne_of_gt h1); omega, by have := Int.emod_lt_of_pos x h1; omega⟩ zt2) H locs ls hP hS hL
theorem zq_iand (C : zOK X l cc nL own ret f w shp F) {x y : Int} (d : decode cc pc = .ok (.iand, 1)) (k : zG X M (pc + 1) lv (zi (zand x y) :: st)) : zG X M pc lv (zi y :: zi x :: st) := by
  obtain ⟨p, l', e, R, s, m, args, below, meth, c, D, ids, ad, shp', A, F'⟩ := X
  obtain ⟨rfl, hx, hb, hml, hown, hts, hK, hD, hA, hr, hlk, hR, rfl, rfl, hN⟩ := C
  intro hM hV H locs ls hP hS hL
  refine lv_iand hx hb d ?_
  have k2 := k hM (zRV_i hV (zi_rng _) zt2) H locs ls hP hS hL
  rw [List.map_cons] at k2
  unfold zand at k2
  simp only [zcv, zi_of] at k2
  exact k2
theorem zq_ior (C : zOK X l cc nL own ret f w shp F) {x y : Int} (d : decode cc pc = .ok (.ior, 1)) (k : zG X M (pc + 1) lv (zi (zor x y) :: st)) : zG X M pc lv (zi y :: zi x :: st) := by
  obtain ⟨p, l', e, R, s, m, args, below, meth, c, D, ids, ad, shp', A, F'⟩ := X
  obtain ⟨rfl, hx, hb, hml, hown, hts, hK, hD, hA, hr, hlk, hR, rfl, rfl, hN⟩ := C
  intro hM hV H locs ls hP hS hL
  refine lv_ior hx hb d ?_
  have k2 := k hM (zRV_i hV (zi_rng _) zt2) H locs ls hP hS hL
  rw [List.map_cons] at k2
  unfold zor at k2
  simp only [zcv, zi_of] at k2
  exact k2
theorem zq_ixor (C : zOK X l cc nL own ret f w shp F) {x y : Int} (d : decode cc pc = .ok (.ixor, 1)) (k : zG X M (pc + 1) lv (zi (zxor x y) :: st)) : zG X M pc lv (zi y :: zi x :: st) := by
  obtain ⟨p, l', e, R, s, m, args, below, meth, c, D, ids, ad, shp', A, F'⟩ := X
  obtain ⟨rfl, hx, hb, hml, hown, hts, hK, hD, hA, hr, hlk, hR, rfl, rfl, hN⟩ := C
  intro hM hV H locs ls hP hS hL
  refine lv_ixor hx hb d ?_
  have k2 := k hM (zRV_i hV (zi_rng _) zt2) H locs ls hP hS hL
  rw [List.map_cons] at k2
  unfold zxor at k2
  simp only [zcv, zi_of] at k2
  exact k2
theorem zq_ishl (C : zOK X l cc nL own ret f w shp F) {x y : Int} (d : decode cc pc = .ok (.ishl, 1)) (k : zG X M (pc + 1) lv (zi (zshl x y) :: st)) : zG X M pc lv (zi y :: zi x :: st) := by
  obtain ⟨p, l', e, R, s, m, args, below, meth, c, D, ids, ad, shp', A, F'⟩ := X
  obtain ⟨rfl, hx, hb, hml, hown, hts, hK, hD, hA, hr, hlk, hR, rfl, rfl, hN⟩ := C
  intro hM hV H locs ls hP hS hL
  refine lv_ishl hx hb d ?_
  have k2 := k hM (zRV_i hV (zi_rng _) zt2) H locs ls hP hS hL
  rw [List.map_cons] at k2
  unfold zshl at k2
  simp only [zcv, zi_of] at k2
  exact k2
theorem zq_ishr (C : zOK X l cc nL own ret f w shp F) {x y : Int} (d : decode cc pc = .ok (.ishr, 1)) (k : zG X M (pc + 1) lv (zi (zshr x y) :: st)) : zG X M pc lv (zi y :: zi x :: st) := by
  obtain ⟨p, l', e, R, s, m, args, below, meth, c, D, ids, ad, shp', A, F'⟩ := X
  obtain ⟨rfl, hx, hb, hml, hown, hts, hK, hD, hA, hr, hlk, hR, rfl, rfl, hN⟩ := C
  intro hM hV H locs ls hP hS hL
  refine lv_ishr hx hb d ?_
  have k2 := k hM (zRV_i hV (zi_rng _) zt2) H locs ls hP hS hL
  rw [List.map_cons] at k2
  unfold zshr at k2
  simp only [zcv, zi_of] at k2
  exact k2
theorem z_char {x : Int} (hx : i32 x) : ((Int32.ofInt x).toUInt32 % 65536).toInt32 = Int32.ofInt (x % 65536) := by
  rw [pk_char]
  unfold nI
  rw [← Int32.ofInt_eq_ofNat]
  congr 1
  have h1 : (Int32.ofInt x).toBitVec.toNat = (x % 4294967296).toNat := by
    rw [Int32.toBitVec_ofInt, BitVec.toNat_ofInt]
    rfl
  rw [h1]
  omega
theorem zq_i2c (C : zOK X l cc nL own ret f w shp F) {x : Int} (d : decode cc pc = .ok (.i2c, 1)) (k : zG X M (pc + 1) lv (zi (x % 65536) :: st)) : zG X M pc lv (zi x :: st) := by
  obtain ⟨p, l', e, R, s, m, args, below, meth, c, D, ids, ad, shp', A, F'⟩ := X
  obtain ⟨rfl, hx, hb, hml, hown, hts, hK, hD, hA, hr, hlk, hR, rfl, rfl, hN⟩ := C
  intro hM hV H locs ls hP hS hL
  have hx1 : i32 x := hV.2.1 x List.mem_cons_self
  refine lv_i2c (v := Int32.ofInt (x % 65536)) hx hb d (z_char hx1) ?_
  exact k hM (zRV_i hV ⟨by omega, by omega⟩ zt1) H locs ls hP hS hL
theorem zq_dup (C : zOK X l cc nL own ret f w shp F) {v : zV} (d : decode cc pc = .ok (.dup, 1)) (hv : zNd [v] = true) (k : zG X M (pc + 1) lv (v :: v :: st)) : zG X M pc lv (v :: st) := by
  obtain ⟨p, l', e, R, s, m, args, below, meth, c, D, ids, ad, shp', A, F'⟩ := X
  obtain ⟨rfl, hx, hb, hml, hown, hts, hK, hD, hA, hr, hlk, hR, rfl, rfl, hN⟩ := C
  intro hM hV H locs ls hP hS hL
  refine lv_dup hx hb d (z_cat ad (zNd1 hv)) ?_
  exact k hM (zRV_sub hV (fun x hx => (List.mem_cons.mp hx).elim (fun e => e ▸ List.mem_cons_self) (fun e => e))) H locs ls hP hS hL
theorem zq_pop (C : zOK X l cc nL own ret f w shp F) {v : zV} (d : decode cc pc = .ok (.pop, 1)) (hv : zNd [v] = true) (k : zG X M (pc + 1) lv (st)) : zG X M pc lv (v :: st) := by
  obtain ⟨p, l', e, R, s, m, args, below, meth, c, D, ids, ad, shp', A, F'⟩ := X
  obtain ⟨rfl, hx, hb, hml, hown, hts, hK, hD, hA, hr, hlk, hR, rfl, rfl, hN⟩ := C
  intro hM hV H locs ls hP hS hL
  refine lv_pop hx hb d (z_cat ad (zNd1 hv)) ?_
  exact k hM (zRV_sub hV zt1) H locs ls hP hS hL
theorem zq_dup_x1 (C : zOK X l cc nL own ret f w shp F) {v u : zV} (d : decode cc pc = .ok (.dup_x1, 1)) (hv : zNd [v] = true) (hu : zNd [u] = true) (k : zG X M (pc + 1) lv (v :: u :: v :: st)) : zG X M pc lv (v :: u :: st) := by
  obtain ⟨p, l', e, R, s, m, args, below, meth, c, D, ids, ad, shp', A, F'⟩ := X
  obtain ⟨rfl, hx, hb, hml, hown, hts, hK, hD, hA, hr, hlk, hR, rfl, rfl, hN⟩ := C
  intro hM hV H locs ls hP hS hL
  refine lv_dup_x1 hx hb d (z_cat ad (zNd1 hv)) (z_cat ad (zNd1 hu)) ?_
  exact k hM (zRV_sub hV (fun x hx => by simp only [List.mem_cons] at hx ⊢; rcases hx with h | h | h | h <;> simp [h])) H locs ls hP hS hL
theorem zq_dup2 (C : zOK X l cc nL own ret f w shp F) {v u : zV} (d : decode cc pc = .ok (.dup2, 1)) (hv : zNd [v] = true) (hu : zNd [u] = true) (k : zG X M (pc + 1) lv (v :: u :: v :: u :: st)) : zG X M pc lv (v :: u :: st) := by
  obtain ⟨p, l', e, R, s, m, args, below, meth, c, D, ids, ad, shp', A, F'⟩ := X
  obtain ⟨rfl, hx, hb, hml, hown, hts, hK, hD, hA, hr, hlk, hR, rfl, rfl, hN⟩ := C
  intro hM hV H locs ls hP hS hL
  refine lv_dup2_11 hx hb d (z_cat ad (zNd1 hv)) (z_cat ad (zNd1 hu)) ?_
  exact k hM (zRV_sub hV (fun x hx => by simp only [List.mem_cons] at hx ⊢; rcases hx with h | h | h | h | h <;> simp [h])) H locs ls hP hS hL
theorem zq_if_eq (C : zOK X l cc nL own ret f w shp F) {x : Int} {off : Int} {tgt : Nat} (d : decode cc pc = .ok (.ifCond .eq off, 3)) (ht : (pc : Int) + off = (tgt : Int)) (kt : x = 0 → zG X M tgt lv st) (kf : ¬ (x = 0) → zG X M (pc + 3) lv st) : zG X M pc lv (zi x :: st) := by
  obtain ⟨p, l', e, R, s, m, args, below, meth, c, D, ids, ad, shp', A, F'⟩ := X
  obtain ⟨rfl, hx, hb, hml, hown, hts, hK, hD, hA, hr, hlk, hR, rfl, rfl, hN⟩ := C
  intro hM hV H locs ls hP hS hL
  have h1 : i32 x := hV.2.1 x List.mem_cons_self
  have h2 : i32 0 := by decide
  have e := zi_eq h1 h2
  refine lv_if_eq hx hb d ht (fun q => ?_) (fun q => ?_)
  · exact kt (e.mp q) hM (zRV_sub hV zt1) H locs ls hP hS hL
  · exact kf (fun z => q (e.mpr z)) hM (zRV_sub hV zt1) H locs ls hP hS hL
theorem zq_icmp_eq (C : zOK X l cc nL own ret f w shp F) {x y : Int} {off : Int} {tgt : Nat} (d : decode cc pc = .ok (.if_icmp .eq off, 3)) (ht : (pc : Int) + off = (tgt : Int)) (kt : x = y → zG X M tgt lv st) (kf : ¬ (x = y) → zG X M (pc + 3) lv st) : zG X M pc lv (zi y :: zi x :: st) := by
  obtain ⟨p, l', e, R, s, m, args, below, meth, c, D, ids, ad, shp', A, F'⟩ := X
  obtain ⟨rfl, hx, hb, hml, hown, hts, hK, hD, hA, hr, hlk, hR, rfl, rfl, hN⟩ := C
  intro hM hV H locs ls hP hS hL
  have h1 : i32 x := hV.2.1 x (List.mem_cons_of_mem _ List.mem_cons_self)
  have h2 : i32 y := hV.2.1 y List.mem_cons_self
  have e := zi_eq h1 h2
  refine lv_icmp_eq hx hb d ht (fun q => ?_) (fun q => ?_)
  · exact kt (e.mp q) hM (zRV_sub hV zt2) H locs ls hP hS hL
  · exact kf (fun z => q (e.mpr z)) hM (zRV_sub hV zt2) H locs ls hP hS hL
theorem zq_if_ne (C : zOK X l cc nL own ret f w shp F) {x : Int} {off : Int} {tgt : Nat} (d : decode cc pc = .ok (.ifCond .ne off, 3)) (ht : (pc : Int) + off = (tgt : Int)) (kt : ¬ x = 0 → zG X M tgt lv st) (kf : x = 0 → zG X M (pc + 3) lv st) : zG X M pc lv (zi x :: st) := by
  obtain ⟨p, l', e, R, s, m, args, below, meth, c, D, ids, ad, shp', A, F'⟩ := X
  obtain ⟨rfl, hx, hb, hml, hown, hts, hK, hD, hA, hr, hlk, hR, rfl, rfl, hN⟩ := C
  intro hM hV H locs ls hP hS hL
  have h1 : i32 x := hV.2.1 x List.mem_cons_self
  have h2 : i32 0 := by decide
  have e := not_congr (zi_eq h1 h2)
  refine lv_if_ne hx hb d ht (fun q => ?_) (fun q => ?_)
  · exact kt (e.mp q) hM (zRV_sub hV zt1) H locs ls hP hS hL
  · exact kf (zi_eq h1 h2 |>.mp q) hM (zRV_sub hV zt1) H locs ls hP hS hL
theorem zq_icmp_ne (C : zOK X l cc nL own ret f w shp F) {x y : Int} {off : Int} {tgt : Nat} (d : decode cc pc = .ok (.if_icmp .ne off, 3)) (ht : (pc : Int) + off = (tgt : Int)) (kt : ¬ x = y → zG X M tgt lv st) (kf : x = y → zG X M (pc + 3) lv st) : zG X M pc lv (zi y :: zi x :: st) := by
  obtain ⟨p, l', e, R, s, m, args, below, meth, c, D, ids, ad, shp', A, F'⟩ := X
  obtain ⟨rfl, hx, hb, hml, hown, hts, hK, hD, hA, hr, hlk, hR, rfl, rfl, hN⟩ := C
  intro hM hV H locs ls hP hS hL
  have h1 : i32 x := hV.2.1 x (List.mem_cons_of_mem _ List.mem_cons_self)
  have h2 : i32 y := hV.2.1 y List.mem_cons_self
  have e := not_congr (zi_eq h1 h2)
  refine lv_icmp_ne hx hb d ht (fun q => ?_) (fun q => ?_)
  · exact kt (e.mp q) hM (zRV_sub hV zt2) H locs ls hP hS hL
  · exact kf (zi_eq h1 h2 |>.mp q) hM (zRV_sub hV zt2) H locs ls hP hS hL
theorem zq_if_lt (C : zOK X l cc nL own ret f w shp F) {x : Int} {off : Int} {tgt : Nat} (d : decode cc pc = .ok (.ifCond .lt off, 3)) (ht : (pc : Int) + off = (tgt : Int)) (kt : x < 0 → zG X M tgt lv st) (kf : ¬ (x < 0) → zG X M (pc + 3) lv st) : zG X M pc lv (zi x :: st) := by
  obtain ⟨p, l', e, R, s, m, args, below, meth, c, D, ids, ad, shp', A, F'⟩ := X
  obtain ⟨rfl, hx, hb, hml, hown, hts, hK, hD, hA, hr, hlk, hR, rfl, rfl, hN⟩ := C
  intro hM hV H locs ls hP hS hL
  have h1 : i32 x := hV.2.1 x List.mem_cons_self
  have h2 : i32 0 := by decide
  have e := zi_lt h1 h2
  refine lv_if_lt hx hb d ht (fun q => ?_) (fun q => ?_)
  · exact kt (e.mp q) hM (zRV_sub hV zt1) H locs ls hP hS hL
  · exact kf (fun z => q (e.mpr z)) hM (zRV_sub hV zt1) H locs ls hP hS hL
theorem zq_icmp_lt (C : zOK X l cc nL own ret f w shp F) {x y : Int} {off : Int} {tgt : Nat} (d : decode cc pc = .ok (.if_icmp .lt off, 3)) (ht : (pc : Int) + off = (tgt : Int)) (kt : x < y → zG X M tgt lv st) (kf : ¬ (x < y) → zG X M (pc + 3) lv st) : zG X M pc lv (zi y :: zi x :: st) := by
  obtain ⟨p, l', e, R, s, m, args, below, meth, c, D, ids, ad, shp', A, F'⟩ := X
  obtain ⟨rfl, hx, hb, hml, hown, hts, hK, hD, hA, hr, hlk, hR, rfl, rfl, hN⟩ := C
  intro hM hV H locs ls hP hS hL
  have h1 : i32 x := hV.2.1 x (List.mem_cons_of_mem _ List.mem_cons_self)
  have h2 : i32 y := hV.2.1 y List.mem_cons_self
  have e := zi_lt h1 h2
  refine lv_icmp_lt hx hb d ht (fun q => ?_) (fun q => ?_)
  · exact kt (e.mp q) hM (zRV_sub hV zt2) H locs ls hP hS hL
  · exact kf (fun z => q (e.mpr z)) hM (zRV_sub hV zt2) H locs ls hP hS hL
theorem zq_if_ge (C : zOK X l cc nL own ret f w shp F) {x : Int} {off : Int} {tgt : Nat} (d : decode cc pc = .ok (.ifCond .ge off, 3)) (ht : (pc : Int) + off = (tgt : Int)) (kt : 0 ≤ x → zG X M tgt lv st) (kf : ¬ (0 ≤ x) → zG X M (pc + 3) lv st) : zG X M pc lv (zi x :: st) := by
  obtain ⟨p, l', e, R, s, m, args, below, meth, c, D, ids, ad, shp', A, F'⟩ := X
  obtain ⟨rfl, hx, hb, hml, hown, hts, hK, hD, hA, hr, hlk, hR, rfl, rfl, hN⟩ := C
  intro hM hV H locs ls hP hS hL
  have h1 : i32 x := hV.2.1 x List.mem_cons_self
  have h2 : i32 0 := by decide
  have e := zi_le h2 h1
  refine lv_if_ge hx hb d ht (fun q => ?_) (fun q => ?_)
  · exact kt (e.mp q) hM (zRV_sub hV zt1) H locs ls hP hS hL
  · exact kf (fun z => q (e.mpr z)) hM (zRV_sub hV zt1) H locs ls hP hS hL
theorem zq_icmp_ge (C : zOK X l cc nL own ret f w shp F) {x y : Int} {off : Int} {tgt : Nat} (d : decode cc pc = .ok (.if_icmp .ge off, 3)) (ht : (pc : Int) + off = (tgt : Int)) (kt : y ≤ x → zG X M tgt lv st) (kf : ¬ (y ≤ x) → zG X M (pc + 3) lv st) : zG X M pc lv (zi y :: zi x :: st) := by
  obtain ⟨p, l', e, R, s, m, args, below, meth, c, D, ids, ad, shp', A, F'⟩ := X
  obtain ⟨rfl, hx, hb, hml, hown, hts, hK, hD, hA, hr, hlk, hR, rfl, rfl, hN⟩ := C
  intro hM hV H locs ls hP hS hL
  have h1 : i32 x := hV.2.1 x (List.mem_cons_of_mem _ List.mem_cons_self)
  have h2 : i32 y := hV.2.1 y List.mem_cons_self
  have e := zi_le h2 h1
  refine lv_icmp_ge hx hb d ht (fun q => ?_) (fun q => ?_)
  · exact kt (e.mp q) hM (zRV_sub hV zt2) H locs ls hP hS hL
  · exact kf (fun z => q (e.mpr z)) hM (zRV_sub hV zt2) H locs ls hP hS hL
theorem zq_if_gt (C : zOK X l cc nL own ret f w shp F) {x : Int} {off : Int} {tgt : Nat} (d : decode cc pc = .ok (.ifCond .gt off, 3)) (ht : (pc : Int) + off = (tgt : Int)) (kt : 0 < x → zG X M tgt lv st) (kf : ¬ (0 < x) → zG X M (pc + 3) lv st) : zG X M pc lv (zi x :: st) := by
  obtain ⟨p, l', e, R, s, m, args, below, meth, c, D, ids, ad, shp', A, F'⟩ := X
  obtain ⟨rfl, hx, hb, hml, hown, hts, hK, hD, hA, hr, hlk, hR, rfl, rfl, hN⟩ := C
  intro hM hV H locs ls hP hS hL
  have h1 : i32 x := hV.2.1 x List.mem_cons_self
  have h2 : i32 0 := by decide
  have e := zi_lt h2 h1
  refine lv_if_gt hx hb d ht (fun q => ?_) (fun q => ?_)
  · exact kt (e.mp q) hM (zRV_sub hV zt1) H locs ls hP hS hL
  · exact kf (fun z => q (e.mpr z)) hM (zRV_sub hV zt1) H locs ls hP hS hL
theorem zq_icmp_gt (C : zOK X l cc nL own ret f w shp F) {x y : Int} {off : Int} {tgt : Nat} (d : decode cc pc = .ok (.if_icmp .gt off, 3)) (ht : (pc : Int) + off = (tgt : Int)) (kt : y < x → zG X M tgt lv st) (kf : ¬ (y < x) → zG X M (pc + 3) lv st) : zG X M pc lv (zi y :: zi x :: st) := by
  obtain ⟨p, l', e, R, s, m, args, below, meth, c, D, ids, ad, shp', A, F'⟩ := X
  obtain ⟨rfl, hx, hb, hml, hown, hts, hK, hD, hA, hr, hlk, hR, rfl, rfl, hN⟩ := C
  intro hM hV H locs ls hP hS hL
  have h1 : i32 x := hV.2.1 x (List.mem_cons_of_mem _ List.mem_cons_self)
  have h2 : i32 y := hV.2.1 y List.mem_cons_self
  have e := zi_lt h2 h1
  refine lv_icmp_gt hx hb d ht (fun q => ?_) (fun q => ?_)
  · exact kt (e.mp q) hM (zRV_sub hV zt2) H locs ls hP hS hL
  · exact kf (fun z => q (e.mpr z)) hM (zRV_sub hV zt2) H locs ls hP hS hL
theorem zq_if_le (C : zOK X l cc nL own ret f w shp F) {x : Int} {off : Int} {tgt : Nat} (d : decode cc pc = .ok (.ifCond .le off, 3)) (ht : (pc : Int) + off = (tgt : Int)) (kt : x ≤ 0 → zG X M tgt lv st) (kf : ¬ (x ≤ 0) → zG X M (pc + 3) lv st) : zG X M pc lv (zi x :: st) := by
  obtain ⟨p, l', e, R, s, m, args, below, meth, c, D, ids, ad, shp', A, F'⟩ := X
  obtain ⟨rfl, hx, hb, hml, hown, hts, hK, hD, hA, hr, hlk, hR, rfl, rfl, hN⟩ := C
  intro hM hV H locs ls hP hS hL
  have h1 : i32 x := hV.2.1 x List.mem_cons_self
  have h2 : i32 0 := by decide
  have e := zi_le h1 h2
  refine lv_if_le hx hb d ht (fun q => ?_) (fun q => ?_)
  · exact kt (e.mp q) hM (zRV_sub hV zt1) H locs ls hP hS hL
  · exact kf (fun z => q (e.mpr z)) hM (zRV_sub hV zt1) H locs ls hP hS hL
theorem zq_icmp_le (C : zOK X l cc nL own ret f w shp F) {x y : Int} {off : Int} {tgt : Nat} (d : decode cc pc = .ok (.if_icmp .le off, 3)) (ht : (pc : Int) + off = (tgt : Int)) (kt : x ≤ y → zG X M tgt lv st) (kf : ¬ (x ≤ y) → zG X M (pc + 3) lv st) : zG X M pc lv (zi y :: zi x :: st) := by
  obtain ⟨p, l', e, R, s, m, args, below, meth, c, D, ids, ad, shp', A, F'⟩ := X
  obtain ⟨rfl, hx, hb, hml, hown, hts, hK, hD, hA, hr, hlk, hR, rfl, rfl, hN⟩ := C
  intro hM hV H locs ls hP hS hL
  have h1 : i32 x := hV.2.1 x (List.mem_cons_of_mem _ List.mem_cons_self)
  have h2 : i32 y := hV.2.1 y List.mem_cons_self
  have e := zi_le h1 h2
  refine lv_icmp_le hx hb d ht (fun q => ?_) (fun q => ?_)
  · exact kt (e.mp q) hM (zRV_sub hV zt2) H locs ls hP hS hL
  · exact kf (fun z => q (e.mpr z)) hM (zRV_sub hV zt2) H locs ls hP hS hL
theorem zq_goto (C : zOK X l cc nL own ret f w shp F) {off : Int} {tgt : Nat} (d : decode cc pc = .ok (.goto off, 3)) (ht : (pc : Int) + off = (tgt : Int)) (k : zG X M tgt lv st) : zG X M pc lv st := by
  obtain ⟨p, l', e, R, s, m, args, below, meth, c, D, ids, ad, shp', A, F'⟩ := X
  obtain ⟨rfl, hx, hb, hml, hown, hts, hK, hD, hA, hr, hlk, hR, rfl, rfl, hN⟩ := C
  intro hM hV H locs ls hP hS hL
  refine lv_goto hx hb d ht ?_
  exact k hM hV H locs ls hP hS hL
end ZQ
