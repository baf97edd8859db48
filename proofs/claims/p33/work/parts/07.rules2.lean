/-! memory, returns, calls over zG -/
def zFok (own : String) (idx ci k : Nat) (ty : FieldType) (fin : Bool) : Prop := ∃ (C : String) (T : u_T) (N : Nat) (ty0 : Nat → FieldType), vwCl[ci]? = some (C, T, N) ∧ k < N ∧ (∀ q ∈ u_ws C T N, q ∈ lw_g) ∧ Cond.fieldLink own idx (T k).1 (T k).2.1 (T k).2.2.1 ∈ lw_g ∧ (∀ k, k < N → parseFieldDescriptor (T k).2.2.1 = some (ty0 k)) ∧ (∀ a, a < N → ∀ b, b < N → a ≠ b → (T a).2.1 ≠ (T b).2.1) ∧ parseFieldDescriptor (T k).2.2.1 = some ty ∧ (T k).2.2.2 = fin
theorem zfs_get {ad : Nat → Nat} {f : Int → Int} {l : List (Option Nat)} {k : Nat} {o : Option Nat} (h : l[k]? = some o) : (zfs ad f l)[k]? = some (zf1 ad f k o) := by
  unfold zfs
  rw [List.getElem?_mapIdx, h]
  rfl
theorem zfs_set {ad : Nat → Nat} {M : zM} {i : Nat} {l : List (Option Nat)} {k : Nat} {x : Int} (h : l[k]? = some none) : (zfs ad (M i) l).set k (.int (Int32.ofInt x)) = zfs ad (zup M i k x i) l := by
  apply List.ext_getElem?
  intro j
  rw [List.getElem?_set]
  unfold zfs
  rw [List.getElem?_mapIdx, List.getElem?_mapIdx]
  by_cases hj : k = j
  · subst hj
    have hl : k < l.length := (List.getElem?_eq_some_iff.mp h).1
    rw [if_pos rfl, List.length_mapIdx, if_pos hl, h]
    simp [zf1, zup]
  · rw [if_neg hj]
    cases hl : l[j]? with
    | none => rfl
    | some o =>
      cases o with
      | none =>
        simp only [Option.map_some, zf1, zup]
        rw [if_neg (by omega)]
      | some q => rfl
theorem z_upd {M : zM} {i : Nat} {z x : Int} (h0 : 0 ≤ z) : upd (fun j : Nat => Int32.ofInt (M i j)) z.toNat (Int32.ofInt x) = fun j : Nat => Int32.ofInt (zup M i z x i j) := by
  funext j
  unfold upd zup
  by_cases hj : j = z.toNat
  · rw [if_pos hj, if_pos ⟨rfl, by omega⟩]
  · rw [if_neg hj, if_neg (by omega)]
theorem z_narC {x : Int} (h0 : 0 ≤ x) (h1 : x < 65536) : vp_nar .char (Int32.ofInt x) = Int32.ofInt x := by
  obtain ⟨a, rfl⟩ := Int.eq_ofNat_of_zero_le h0
  have e : Int32.ofInt (a : Int) = nI a := by unfold nI; exact Int32.ofInt_eq_ofNat
  rw [e]
  unfold vp_nar
  rw [(pk_charN (q := a) (by omega)).1]
theorem z_narZ {x : Int} (h : x = 0 ∨ x = 1) : narrow .boolean (.int (Int32.ofInt x)) = .int (Int32.ofInt x) := by
  rcases h with rfl | rfl <;> decide
theorem z_narZ2 {x : Int} (h : x = 0 ∨ x = 1) : vp_nar .boolean (Int32.ofInt x) = Int32.ofInt x := by
  unfold vp_nar
  rw [z_narZ h]
theorem z_fitZ {x : Int} (h : x = 0 ∨ x = 1) : fits .boolean (.int (Int32.ofInt x)) = true := by
  rcases h with rfl | rfl <;> decide
section ZQ
variable {X : zX} {l : Launch} {cc : ByteArray} {nL : Nat} {own : String} {ret : Option FieldType} {f w : Nat} {shp : zS} {F : zV → zM → Prop} {M : zM} {pc : Nat} {lv lv' : List (Option zV)} {st : List zV}
theorem zq_get (C : zOK X l cc nL own ret f w shp F) {i idx ci k : Nat} {kz : Int} {ty : FieldType} {fin : Bool} {fl : List (Option Nat)} (hF : zFok own idx ci k ty fin) (hs : shp[i]? = some (0, ci, fl)) (hk : fl[k]? = some none) (d : decode cc pc = .ok (.getfield idx, 3)) (hz : (k : Int) = kz) (kk : zG X M (pc + 3) lv (zi (M i kz) :: st)) : zG X M pc lv (zr i :: st) := by
  obtain ⟨p, l', e, R, s, m, args, below, meth, c, D, ids, ad, shp', A, F'⟩ := X
  obtain ⟨rfl, hx, hb, hml, hown, hts, hK, hD, hA, hr, hlk, hR, rfl, rfl, hN⟩ := C
  intro hM hV H locs ls hP hS hL
  obtain ⟨CC, T, N, ty0, h1, h2, h3, h4, h5, h6, h7, h8⟩ := hF
  subst hz
  exact va_get (ref := (T k).1) hx hb hts h3 hown hK hP i (zW_get hs) h1 k h2 (hts _ h4) (fun _ q => q) (zfs_get hk) d (kk hM (zRV_i hV (hM _ _) zt1) H locs ls hP hS hL)
theorem zq_getr (C : zOK X l cc nL own ret f w shp F) {i idx ci k j : Nat} {ty : FieldType} {fin : Bool} {fl : List (Option Nat)} (hF : zFok own idx ci k ty fin) (hs : shp[i]? = some (0, ci, fl)) (hk : fl[k]? = some (some j)) (d : decode cc pc = .ok (.getfield idx, 3)) (kk : zG X M (pc + 3) lv (zr j :: st)) : zG X M pc lv (zr i :: st) := by
  obtain ⟨p, l', e, R, s, m, args, below, meth, c, D, ids, ad, shp', A, F'⟩ := X
  obtain ⟨rfl, hx, hb, hml, hown, hts, hK, hD, hA, hr, hlk, hR, rfl, rfl, hN⟩ := C
  intro hM hV H locs ls hP hS hL
  obtain ⟨CC, T, N, ty0, h1, h2, h3, h4, h5, h6, h7, h8⟩ := hF
  exact va_get (ref := (T k).1) hx hb hts h3 hown hK hP i (zW_get hs) h1 k h2 (hts _ h4) (fun _ q => q) (zfs_get hk) d (kk hM (zRV_r hV zt1) H locs ls hP hS hL)
theorem zq_put' (C : zOK X l cc nL own ret f w shp F) {i idx ci k : Nat} {kz x : Int} {ty : FieldType} {fl : List (Option Nat)} (hF : zFok own idx ci k ty false) (hn : narrow ty (.int (Int32.ofInt x)) = .int (Int32.ofInt x)) (hf : fits ty (.int (Int32.ofInt x)) = true) (hs : shp[i]? = some (0, ci, fl)) (hk : fl[k]? = some none) (d : decode cc pc = .ok (.putfield idx, 3)) (hz : (k : Int) = kz) (kk : ∀ M1 : zM, M1 = zup M i kz x → zG X M1 (pc + 3) lv st) : zG X M pc lv (zi x :: zr i :: st) := by
  obtain ⟨p, l', e, R, s, m, args, below, meth, c, D, ids, ad, shp', A, F'⟩ := X
  obtain ⟨rfl, hx, hb, hml, hown, hts, hK, hD, hA, hr, hlk, hR, rfl, rfl, hN⟩ := C
  intro hM hV H locs ls hP hS hL
  obtain ⟨CC, T, N, ty0, h1, h2, h3, h4, h5, h6, h7, h8⟩ := hF
  subst hz
  have hlen : k < (zfs ad (M i) fl).length := by
    unfold zfs
    rw [List.length_mapIdx]
    exact (List.getElem?_eq_some_iff.mp hk).1
  refine va_put (ref := (T k).1) hx hb hts h3 ty0 h5 h6 hown hK hP (hD M) hS i (zW_get hs) h1 k h2 (hts _ h4) (fun _ q => q) h8 h7 hn hf hlen d (fun H1 locs1 hP1 hD1 hS1 => ?_)
  have eq : (zW ids ad M shp').set i (ad i, Sum.inr (ci, (zfs ad (M i) fl).set k (zcv ad (zi x)))) = zW ids ad (zup M i k x) shp' := zW_set hs (congrArg (fun q => Sum.inr (ci, q)) (zfs_set hk)) (fun j hj => zup_other hj)
  rw [eq] at hP1
  exact kk _ rfl (zup_rm hM (hV.2.1 x List.mem_cons_self)) (zRV_sub hV zt2) H1 locs1 ls hP1 hS1 hL
theorem zq_put (C : zOK X l cc nL own ret f w shp F) {i idx ci k : Nat} {kz x : Int} {fl : List (Option Nat)} (hF : zFok own idx ci k .int false) (hs : shp[i]? = some (0, ci, fl)) (hk : fl[k]? = some none) (d : decode cc pc = .ok (.putfield idx, 3)) (hz : (k : Int) = kz) (kk : ∀ M1 : zM, M1 = zup M i kz x → zG X M1 (pc + 3) lv st) : zG X M pc lv (zi x :: zr i :: st) := zq_put' C hF rfl rfl hs hk d hz kk
theorem zq_putz (C : zOK X l cc nL own ret f w shp F) {i idx ci k : Nat} {kz x : Int} {fl : List (Option Nat)} (hF : zFok own idx ci k .boolean false) (hb : x = 0 ∨ x = 1) (hs : shp[i]? = some (0, ci, fl)) (hk : fl[k]? = some none) (d : decode cc pc = .ok (.putfield idx, 3)) (hz : (k : Int) = kz) (kk : ∀ M1 : zM, M1 = zup M i kz x → zG X M1 (pc + 3) lv st) : zG X M pc lv (zi x :: zr i :: st) := zq_put' C hF (z_narZ hb) (z_fitZ hb) hs hk d hz kk
theorem zq_iald (C : zOK X l cc nL own ret f w shp F) {i n : Nat} {z : Int} {x0 : List (Option Nat)} (hs : shp[i]? = some (1, n, x0)) (h0 : 0 ≤ z) (h1 : z < n) (d : decode cc pc = .ok (.iaload, 1)) (kk : zG X M (pc + 1) lv (zi (M i z) :: st)) : zG X M pc lv (zi z :: zr i :: st) := by
  obtain ⟨p, l', e, R, s, m, args, below, meth, c, D, ids, ad, shp', A, F'⟩ := X
  obtain ⟨rfl, hx, hb, hml, hown, hts, hK, hD, hA, hr, hlk, hR, rfl, rfl, hN⟩ := C
  intro hM hV H locs ls hP hS hL
  have hz : i32 z := hV.2.1 z List.mem_cons_self
  refine va_iald (f := fun j => Int32.ofInt (M i j)) hx hb hK hP i (1 - 1) (zW_get hs) rfl (zi_in hz h0 h1) d ?_
  rw [zi_nat hz h0, show ((z.toNat : Nat) : Int) = z by omega]
  exact kk hM (zRV_i hV (hM _ _) zt2) H locs ls hP hS hL
theorem zq_cald (C : zOK X l cc nL own ret f w shp F) {i n : Nat} {z : Int} {x0 : List (Option Nat)} (hs : shp[i]? = some (2, n, x0)) (h0 : 0 ≤ z) (h1 : z < n) (d : decode cc pc = .ok (.caload, 1)) (kk : zG X M (pc + 1) lv (zi (M i z) :: st)) : zG X M pc lv (zi z :: zr i :: st) := by
  obtain ⟨p, l', e, R, s, m, args, below, meth, c, D, ids, ad, shp', A, F'⟩ := X
  obtain ⟨rfl, hx, hb, hml, hown, hts, hK, hD, hA, hr, hlk, hR, rfl, rfl, hN⟩ := C
  intro hM hV H locs ls hP hS hL
  have hz : i32 z := hV.2.1 z List.mem_cons_self
  refine va_cald (f := fun j => Int32.ofInt (M i j)) hx hb hK hP i (2 - 1) (zW_get hs) rfl (zi_in hz h0 h1) d ?_
  rw [zi_nat hz h0, show ((z.toNat : Nat) : Int) = z by omega]
  exact kk hM (zRV_i hV (hM _ _) zt2) H locs ls hP hS hL
theorem zq_iast (C : zOK X l cc nL own ret f w shp F) {i n : Nat} {z x : Int} {x0 : List (Option Nat)} (hs : shp[i]? = some (1, n, x0)) (h0 : 0 ≤ z) (h1 : z < n)  (d : decode cc pc = .ok (.iastore, 1)) (kk : ∀ M1 : zM, M1 = zup M i z x → zG X M1 (pc + 1) lv st) : zG X M pc lv (zi x :: zi z :: zr i :: st) := by
  obtain ⟨p, l', e, R, s, m, args, below, meth, c, D, ids, ad, shp', A, F'⟩ := X
  obtain ⟨rfl, hx, hb, hml, hown, hts, hK, hD, hA, hr, hlk, hR, rfl, rfl, hN⟩ := C
  intro hM hV H locs ls hP hS hL
  have hz : i32 z := hV.2.1 z (List.mem_cons_of_mem _ List.mem_cons_self)
  refine va_iast (f := fun j => Int32.ofInt (M i j)) hx hb hK hP (hD M) hS i (1 - 1) (zW_get hs) rfl (zi_in hz h0 h1) d (fun H1 locs1 hP1 hD1 hS1 => ?_)
  
  rw [zi_nat hz h0, z_upd h0] at hP1
  have eq : (zW ids ad M shp').set i (ad i, Sum.inl (ids 1, n, Sum.inl fun j : Nat => Int32.ofInt (zup M i z x i j))) = zW ids ad (zup M i z x) shp' := zW_set hs rfl (fun j hj => zup_other hj)
  rw [eq] at hP1
  exact kk _ rfl (zup_rm hM (hV.2.1 x List.mem_cons_self)) (zRV_sub hV zt3) H1 locs1 ls hP1 hS1 hL
theorem zq_cast (C : zOK X l cc nL own ret f w shp F) {i n : Nat} {z x : Int} {x0 : List (Option Nat)} (hs : shp[i]? = some (2, n, x0)) (h0 : 0 ≤ z) (h1 : z < n) (hc0 : 0 ≤ x) (hc1 : x < 65536) (d : decode cc pc = .ok (.castore, 1)) (kk : ∀ M1 : zM, M1 = zup M i z x → zG X M1 (pc + 1) lv st) : zG X M pc lv (zi x :: zi z :: zr i :: st) := by
  obtain ⟨p, l', e, R, s, m, args, below, meth, c, D, ids, ad, shp', A, F'⟩ := X
  obtain ⟨rfl, hx, hb, hml, hown, hts, hK, hD, hA, hr, hlk, hR, rfl, rfl, hN⟩ := C
  intro hM hV H locs ls hP hS hL
  have hz : i32 z := hV.2.1 z (List.mem_cons_of_mem _ List.mem_cons_self)
  refine va_cast (f := fun j => Int32.ofInt (M i j)) hx hb hK hP (hD M) hS i (2 - 1) (zW_get hs) rfl (zi_in hz h0 h1) d (fun H1 locs1 hP1 hD1 hS1 => ?_)
  rw [z_narC hc0 hc1] at hP1
  rw [zi_nat hz h0, z_upd h0] at hP1
  have eq : (zW ids ad M shp').set i (ad i, Sum.inl (ids 2, n, Sum.inl fun j : Nat => Int32.ofInt (zup M i z x i j))) = zW ids ad (zup M i z x) shp' := zW_set hs rfl (fun j hj => zup_other hj)
  rw [eq] at hP1
  exact kk _ rfl (zup_rm hM (hV.2.1 x List.mem_cons_self)) (zRV_sub hV zt3) H1 locs1 ls hP1 hS1 hL
theorem zq_aald (C : zOK X l cc nL own ret f w shp F) {i n q : Nat} {z : Int} {rl : List (Option Nat)} (hs : shp[i]? = some (4, n, rl)) (h0 : 0 ≤ z) (h1 : z < n) (hq : rl[z.toNat]? = some (some q)) (d : decode cc pc = .ok (.aaload, 1)) (kk : zG X M (pc + 1) lv (zr q :: st)) : zG X M pc lv (zi z :: zr i :: st) := by
  obtain ⟨p, l', e, R, s, m, args, below, meth, c, D, ids, ad, shp', A, F'⟩ := X
  obtain ⟨rfl, hx, hb, hml, hown, hts, hK, hD, hA, hr, hlk, hR, rfl, rfl, hN⟩ := C
  intro hM hV H locs ls hP hS hL
  have hz : i32 z := hV.2.1 z List.mem_cons_self
  refine va_aldq (C := "BarStrips$Chart") (f := fun j => (rl.getD j none).map ad) hx hb hK hP i 3 (zW_get hs) rfl (zi_in hz h0 h1) d ?_
  rw [zi_nat hz h0]
  have e : (rl.getD z.toNat none).map ad = some (ad q) := by rw [List.getD_eq_getElem?_getD, hq]; rfl
  rw [e]
  exact kk hM (zRV_r hV zt2) H locs ls hP hS hL
theorem zq_alen (C : zOK X l cc nL own ret f w shp F) {i n t : Nat} {nz : Int} {rl : List (Option Nat)} (hs : shp[i]? = some (t + 1, n, rl)) (ht : t < 3) (hn : (n : Int) = nz) (hn2 : i32 nz) (d : decode cc pc = .ok (.arraylength, 1)) (kk : zG X M (pc + 1) lv (zi nz :: st)) : zG X M pc lv (zr i :: st) := by
  obtain ⟨p, l', e, R, s, m, args, below, meth, c, D, ids, ad, shp', A, F'⟩ := X
  obtain ⟨rfl, hx, hb, hml, hown, hts, hK, hD, hA, hr, hlk, hR, rfl, rfl, hN⟩ := C
  intro hM hV H locs ls hP hS hL
  subst hn
  have key := kk hM (zRV_i hV hn2 zt1) H locs ls hP hS hL
  have hv : Int32.ofNat n = Int32.ofInt (n : Int) := Int32.ofInt_eq_ofNat.symm
  match t, ht with
  | 0, _ => exact va_alen (x := (n, Sum.inl _)) hx hb hK hP i 0 (zW_get hs) rfl hv d key
  | 1, _ => exact va_alen (x := (n, Sum.inl _)) hx hb hK hP i 1 (zW_get hs) rfl hv d key
  | 2, _ => exact va_alen (x := (n, Sum.inl _)) hx hb hK hP i 2 (zW_get hs) rfl hv d key
-- returns
theorem zq_iret (C : zOK X l cc nL own ret f w shp F) {x : Int} (hret : ret = some .int) (hF : F (zi x) M) (d : decode cc pc = .ok (.ireturn, 1)) : zG X M pc lv [zi x] := by
  obtain ⟨p, l', e, R, s, m, args, below, meth, c, D, ids, ad, shp', A, F'⟩ := X
  obtain ⟨rfl, hx, hb, hml, hown, hts, hK, hD, hA, hr, hlk, hR, rfl, rfl, hN⟩ := C
  intro hM hV H locs ls hP hS hL
  subst hret
  exact W.iret (v := Int32.ofInt x) hx hb hr (fun t ht hW => ⟨⟨zi x, M, by rw [hr]; rfl, fun y e => (Sum.inl.inj e) ▸ hV.2.1 x List.mem_cons_self, hM, hF, by rw [ht]; exact hP⟩, hS.F ht⟩) hS.2.2 d hlk
theorem zq_zret (C : zOK X l cc nL own ret f w shp F) {x : Int} (hret : ret = some .boolean) (hb2 : x = 0 ∨ x = 1) (hF : F (zi x) M) (d : decode cc pc = .ok (.ireturn, 1)) : zG X M pc lv [zi x] := by
  obtain ⟨p, l', e, R, s, m, args, below, meth, c, D, ids, ad, shp', A, F'⟩ := X
  obtain ⟨rfl, hx, hb, hml, hown, hts, hK, hD, hA, hr, hlk, hR, rfl, rfl, hN⟩ := C
  intro hM hV H locs ls hP hS hL
  subst hret
  exact W.zret (v := Int32.ofInt x) hx hb hr (z_narZ hb2) (fun t ht hW => ⟨⟨zi x, M, by rw [hr]; rfl, fun y e => (Sum.inl.inj e) ▸ hV.2.1 x List.mem_cons_self, hM, hF, by rw [ht]; exact hP⟩, hS.F ht⟩) hS.2.2 d hlk
theorem zq_vret (C : zOK X l cc nL own ret f w shp F) (hret : ret = none) (hF : F (zi 0) M) (d : decode cc pc = .ok (.return_, 1)) : zG X M pc lv [] := by
  obtain ⟨p, l', e, R, s, m, args, below, meth, c, D, ids, ad, shp', A, F'⟩ := X
  obtain ⟨rfl, hx, hb, hml, hown, hts, hK, hD, hA, hr, hlk, hR, rfl, rfl, hN⟩ := C
  intro hM hV H locs ls hP hS hL
  subst hret
  exact W.vret hx hb hr (fun t ht hW => ⟨⟨zi 0, M, by rw [hr]; rfl, fun y e => (Sum.inl.inj e) ▸ (show i32 0 by decide), hM, hF, by rw [ht]; exact hP⟩, hS.F ht⟩) hS.2.2 d hlk
end ZQ
