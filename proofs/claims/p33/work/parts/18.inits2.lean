/-! shapes put together (printed by gen/inits2.py) -/
def zWk (ids : Nat → ClassId) (ad : Nat → Nat) (M : zM) (k : Nat) (shp : zS) : va_W := shp.mapIdx (fun i sh => (ad (k + i), zce ids ad (M (k + i)) sh))
theorem zWk_0 (ids : Nat → ClassId) (ad : Nat → Nat) (M : zM) (shp : zS) : zWk ids ad M 0 shp = zW ids ad M shp := by
  unfold zWk zW
  congr 1
  funext i sh
  rw [Nat.zero_add]
theorem zWk_app (ids : Nat → ClassId) (ad : Nat → Nat) (M : zM) (k : Nat) (s1 s2 : zS) : zWk ids ad M k (s1 ++ s2) = zWk ids ad M k s1 ++ zWk ids ad M (k + s1.length) s2 := by
  unfold zWk
  rw [List.mapIdx_append]
  congr 2
  funext i sh
  rw [show k + (i + s1.length) = k + s1.length + i by omega]
def shf (k : Nat) (shp : zS) : zS := shp.map (fun sh => (sh.1, sh.2.1, sh.2.2.map (Option.map (fun j => j + k))))
def shOk (n : Nat) (shp : zS) : Bool := Nat.ble shp.length n && shp.all (fun sh => sh.2.2.all (fun r => match r with | none => true | some j => Nat.blt j n))
theorem zfs_shf {a c : Nat → Nat} {f : Int → Int} {k n : Nat} {fl : List (Option Nat)} (ha : ∀ i, i < n → a (k + i) = c i) (hr : ∀ j, some j ∈ fl → j < n) : zfs a f (fl.map (Option.map (fun j => j + k))) = zfs c f fl := by
  apply List.ext_getElem?
  intro i
  unfold zfs
  rw [List.getElem?_mapIdx, List.getElem?_mapIdx, List.getElem?_map]
  cases hi : fl[i]? with
  | none => rfl
  | some o =>
    cases o with
    | none => rfl
    | some j =>
      have hj := hr j (List.mem_of_getElem? hi)
      show some (Value.ref (a (j + k))) = some (Value.ref (c j))
      rw [Nat.add_comm, ha j hj]
theorem zWk_eq {ids : Nat → ClassId} {a c : Nat → Nat} {M Mc : zM} {k : Nat} (n : Nat) {shp : zS} (hok : shOk n shp = true) (ha : ∀ i, i < n → a (k + i) = c i) (hM : ∀ i, i < n → M (k + i) = Mc i) : zWk ids a M k (shf k shp) = zW ids c Mc shp := by
  unfold shOk at hok
  rw [Bool.and_eq_true, List.all_eq_true] at hok
  have hlen := Nat.le_of_ble_eq_true hok.1
  have hr : ∀ sh ∈ shp, ∀ j, some j ∈ sh.2.2 → j < n := by
    intro sh hs j hj
    have h1 := hok.2 sh hs
    rw [List.all_eq_true] at h1
    have h2 := h1 _ hj
    exact Nat.le_of_ble_eq_true h2
  apply List.ext_getElem?
  intro i
  unfold zWk zW shf
  rw [List.getElem?_mapIdx, List.getElem?_mapIdx, List.getElem?_map]
  cases hi : shp[i]? with
  | none => rfl
  | some sh =>
    have hin : i < n := Nat.lt_of_lt_of_le (List.getElem?_eq_some_iff.mp hi).1 hlen
    have hrs := hr sh (List.mem_of_getElem? hi)
    simp only [Option.map_some]
    rw [ha i hin, hM i hin]
    congr 2
    obtain ⟨t, m, fl⟩ := sh
    rcases t with _ | _ | _ | _ | _ | t
    · show Sum.inr (m, zfs a (Mc i) (fl.map (Option.map (fun j => j + k)))) = Sum.inr (m, zfs c (Mc i) fl)
      rw [zfs_shf ha hrs]
    · rfl
    · rfl
    · rfl
    · show Sum.inl (ids 4, m, Sum.inr (Sum.inr (Sum.inr (Sum.inr (fun j => ((fl.map (Option.map (fun j => j + k))).getD j none).map a))))) = Sum.inl (ids 4, m, Sum.inr (Sum.inr (Sum.inr (Sum.inr (fun j => (fl.getD j none).map c)))))
      have e : (fun j => ((fl.map (Option.map (fun j => j + k))).getD j none).map a) = (fun j => (fl.getD j none).map c) := by
        funext j
        rw [List.getD_eq_getElem?_getD, List.getD_eq_getElem?_getD, List.getElem?_map]
        cases hj : fl[j]? with
        | none => rfl
        | some o =>
          cases o with
          | none => rfl
          | some q =>
            have hq := hrs q (List.mem_of_getElem? hj)
            show some (a (q + k)) = some (c q)
            rw [Nat.add_comm, ha q hq]
      rw [e]
    · rfl
theorem flat_perm {α β : Type} (B : α → List β) {l1 l2 : List α} (h : l1.Perm l2) : (l1.flatMap B).Perm (l2.flatMap B) := by
  induction h with
  | nil => exact List.Perm.refl _
  | cons x _ ih =>
    rw [List.flatMap_cons, List.flatMap_cons]
    exact List.Perm.append_left _ ih
  | swap x y l =>
    rw [List.flatMap_cons, List.flatMap_cons, List.flatMap_cons, List.flatMap_cons]
    exact List.perm_append_comm_assoc _ _ _
  | trans _ _ ih1 ih2 => exact ih1.trans ih2

