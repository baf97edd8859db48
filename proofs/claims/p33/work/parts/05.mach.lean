/-! the machine over a fixed shape of cells: whole numbers as Int, cells by their places -/
abbrev zV : Type := Int ⊕ (Nat ⊕ UInt64)
abbrev zM : Type := Nat → Int → Int
abbrev zC : Type := Nat × Nat × List (Option Nat)
abbrev zS : Type := List zC
abbrev zi (x : Int) : zV := Sum.inl x
abbrev zr (i : Nat) : zV := Sum.inr (Sum.inl i)
abbrev zd (d : UInt64) : zV := Sum.inr (Sum.inr d)
abbrev i32 (x : Int) : Prop := -2147483648 ≤ x ∧ x < 2147483648
def zcv (ad : Nat → Nat) : zV → Value
  | .inl x => .int (Int32.ofInt x)
  | .inr (.inl i) => .ref (ad i)
  | .inr (.inr d) => .double d
def zf1 (ad : Nat → Nat) (f : Int → Int) (k : Nat) (o : Option Nat) : Value := match o with
  | none => .int (Int32.ofInt (f k))
  | some j => .ref (ad j)
def zfs (ad : Nat → Nat) (f : Int → Int) (l : List (Option Nat)) : List Value := l.mapIdx (zf1 ad f)
def zce (ids : Nat → ClassId) (ad : Nat → Nat) (f : Int → Int) (sh : zC) : va_E := match sh with
  | (0, ci, fl) => .inr (ci, zfs ad f fl)
  | (4, n, rl) => .inl (ids 4, n, .inr (.inr (.inr (.inr (fun j => (rl.getD j none).map ad)))))
  | (t, n, _) => .inl (ids t, n, .inl (fun j => Int32.ofInt (f j)))
def zW (ids : Nat → ClassId) (ad : Nat → Nat) (M : zM) (shp : zS) : va_W := shp.mapIdx (fun i sh => (ad i, zce ids ad (M i) sh))
def zT (ids : Nat → ClassId) : List (ClassId × FieldType) := [(ids 1, .int), (ids 2, .char), (ids 3, .int), (ids 4, .object "BarStrips$Chart")]
def zup (M : zM) (i : Nat) (k x : Int) : zM := fun a b => if a = i ∧ b = k then x else M a b
def zRM (M : zM) : Prop := ∀ i k, i32 (M i k)
theorem zW_get {ids : Nat → ClassId} {ad : Nat → Nat} {M : zM} {shp : zS} {i : Nat} {sh : zC} (h : shp[i]? = some sh) : (zW ids ad M shp)[i]? = some (ad i, zce ids ad (M i) sh) := by
  unfold zW
  rw [List.getElem?_mapIdx, h]
  rfl
theorem zW_ad {ids : Nat → ClassId} {ad : Nat → Nat} {M : zM} {shp : zS} {i : Nat} {q : Nat × va_E} (h : (zW ids ad M shp)[i]? = some q) : q.1 = ad i ∧ i < shp.length := by
  unfold zW at h
  rw [List.getElem?_mapIdx] at h
  cases hs : shp[i]? with
  | none => rw [hs] at h; cases h
  | some sh =>
    rw [hs] at h
    cases h
    exact ⟨rfl, (List.getElem?_eq_some_iff.mp hs).1⟩
theorem zW_set {ids : Nat → ClassId} {ad : Nat → Nat} {M M' : zM} {shp : zS} {i : Nat} {sh : zC} {e : va_E} (h : shp[i]? = some sh) (he : e = zce ids ad (M' i) sh) (ho : ∀ j, j ≠ i → M' j = M j) : (zW ids ad M shp).set i (ad i, e) = zW ids ad M' shp := by
  apply List.ext_getElem?
  intro j
  rw [List.getElem?_set]
  unfold zW
  rw [List.getElem?_mapIdx, List.getElem?_mapIdx]
  by_cases hj : i = j
  · subst hj
    have hl : i < shp.length := (List.getElem?_eq_some_iff.mp h).1
    have h2 : shp[i] = sh := (List.getElem?_eq_some_iff.mp h).2
    simp [h, he, List.length_mapIdx, hl]
    exact congrArg _ h2.symm
  · rw [if_neg hj, ho j (fun q => hj q.symm)]
theorem zup_other {M : zM} {i : Nat} {k x : Int} {j : Nat} (h : j ≠ i) : zup M i k x j = M j := by
  funext b
  simp [zup, h]
theorem zup_rm {M : zM} (h : zRM M) {i : Nat} {k x : Int} (hx : i32 x) : zRM (zup M i k x) := by
  intro a b
  unfold zup
  split
  · exact hx
  · exact h a b
theorem zD_all {A : Nat → Prop} {ids : Nat → ClassId} {ad : Nat → Nat} {M : zM} {shp : zS} (h : va_D A (zW ids ad M shp)) (M' : zM) : va_D A (zW ids ad M' shp) := by
  have ex : ∀ (k : Nat) (q : Nat × va_E), (zW ids ad M' shp)[k]? = some q → ∃ e, (zW ids ad M shp)[k]? = some (q.1, e) := by
    intro k q hq
    obtain ⟨h1, h2⟩ := zW_ad hq
    refine ⟨zce ids ad (M k) shp[k], ?_⟩
    rw [zW_get (sh := shp[k]) (List.getElem?_eq_getElem h2), h1]
  refine ⟨fun i j p q hp hq e => ?_, fun k q hq => ?_⟩
  · obtain ⟨e1, h1⟩ := ex i p hp
    obtain ⟨e2, h2⟩ := ex j q hq
    exact h.1 i j _ _ h1 h2 e
  · obtain ⟨e1, h1⟩ := ex k q hq
    exact h.2 k (q.1, e1) h1
theorem zA_all {ids : Nat → ClassId} {ad : Nat → Nat} {M M' : zM} {shp : zS} {sz : Nat} : va_A (zW ids ad M shp) sz = va_A (zW ids ad M' shp) sz := by
  have ex : ∀ (M M' : zM) (q : Nat), va_A (zW ids ad M shp) sz q → va_A (zW ids ad M' shp) sz q := by
    intro M M' q hq
    rcases hq with ⟨k, e, hk⟩ | hq
    · obtain ⟨h1, h2⟩ := zW_ad hk
      refine Or.inl ⟨k, zce ids ad (M' k) shp[k], ?_⟩
      rw [zW_get (sh := shp[k]) (List.getElem?_eq_getElem h2)]
      exact congrArg (fun z => some (z, _)) h1.symm
    · exact Or.inr hq
  funext q
  exact propext ⟨ex M M' q, ex M' M q⟩
-- numbers
theorem zi_to {x : Int} (h : i32 x) : (Int32.ofInt x).toInt = x := by
  rw [Int32.toInt_ofInt]
  exact Int.bmod_eq_of_le (by have := h.1; simp [Int32.size]; omega) (by have := h.2; simp [Int32.size]; omega)
theorem zi_of (v : Int32) : Int32.ofInt v.toInt = v := Int32.ofInt_toInt v
theorem zi_rng (v : Int32) : i32 v.toInt := ⟨by have := Int32.le_toInt v; omega, by have := Int32.toInt_lt v; omega⟩
theorem zi_add (x y : Int) : Int32.ofInt x + Int32.ofInt y = Int32.ofInt (x + y) := (Int32.ofInt_add x y).symm
theorem zi_sub (x y : Int) : Int32.ofInt x - Int32.ofInt y = Int32.ofInt (x - y) := (Int32.ofInt_sub x y).symm
theorem zi_mul (x y : Int) : Int32.ofInt x * Int32.ofInt y = Int32.ofInt (x * y) := (Int32.ofInt_mul x y).symm
theorem zi_neg (x : Int) : - Int32.ofInt x = Int32.ofInt (-x) := (Int32.ofInt_neg x).symm
theorem zi_lt {x y : Int} (hx : i32 x) (hy : i32 y) : Int32.ofInt x < Int32.ofInt y ↔ x < y := by
  rw [Int32.lt_iff_toInt_lt, zi_to hx, zi_to hy]
theorem zi_le {x y : Int} (hx : i32 x) (hy : i32 y) : Int32.ofInt x ≤ Int32.ofInt y ↔ x ≤ y := by
  rw [Int32.le_iff_toInt_le, zi_to hx, zi_to hy]
theorem zi_eq {x y : Int} (hx : i32 x) (hy : i32 y) : Int32.ofInt x = Int32.ofInt y ↔ x = y := by
  rw [← Int32.toInt_inj, zi_to hx, zi_to hy]
theorem zi_nat {x : Int} (hx : i32 x) (h0 : 0 ≤ x) : (Int32.ofInt x).toNatClampNeg = x.toNat := by
  show (Int32.ofInt x).toInt.toNat = _
  rw [zi_to hx]
theorem zi_in {x : Int} (hx : i32 x) {n : Nat} (h0 : 0 ≤ x) (hn : x < n) : vp_in (Int32.ofInt x) n := by
  rw [vp_in_iff, zi_to hx]
  exact ⟨h0, hn⟩

-- locals and stack
def zL (ls : Array Slot) (ad : Nat → Nat) (lv : List (Option zV)) : Prop := ls.size = lv.length ∧ lv_wf ls ∧ ∀ (i : Nat) (v : zV), lv[i]? = some (some v) → ls[i]? = some (Slot.val (zcv ad v))
def zlp (ad : Nat → Nat) (lv : List (Option zV)) : List (Nat × Value) := (lv.mapIdx (fun i o => (i, o))).filterMap (fun q => q.2.map (fun v => (q.1, zcv ad v)))
theorem zlp_mem {ad : Nat → Nat} {lv : List (Option zV)} {q : Nat × Value} : q ∈ zlp ad lv ↔ ∃ v, lv[q.1]? = some (some v) ∧ q.2 = zcv ad v := by
  unfold zlp
  rw [List.mem_filterMap]
  constructor
  · rintro ⟨⟨i, o⟩, h1, h2⟩
    obtain ⟨k, hk⟩ := List.getElem?_of_mem h1
    rw [List.getElem?_mapIdx] at hk
    cases ho : lv[k]? with
    | none => rw [ho] at hk; cases hk
    | some o' =>
      rw [ho] at hk
      cases hk
      cases o with
      | none => cases h2
      | some v => cases h2; exact ⟨v, ho, rfl⟩
  · rintro ⟨v, h1, h2⟩
    refine ⟨(q.1, some v), List.mem_of_getElem? (i := q.1) ?_, ?_⟩
    · rw [List.getElem?_mapIdx, h1]
      rfl
    · show some (q.1, zcv ad v) = some q
      rw [← h2]
theorem zL_to {ls : Array Slot} {ad : Nat → Nat} {lv : List (Option zV)} (h : zL ls ad lv) : lv_has ls lv.length (zlp ad lv) := by
  refine ⟨h.1, h.2.1, fun q hq => ?_⟩
  obtain ⟨v, h1, h2⟩ := zlp_mem.mp hq
  rw [h2]
  exact h.2.2 _ _ h1
def zRV (lv : List (Option zV)) (st : List zV) : Prop := (∀ x, some (Sum.inl x) ∈ lv → i32 x) ∧ (∀ x, Sum.inl x ∈ st → i32 x) ∧ ∀ d, some (zd d) ∉ lv
theorem zL_store {ls : Array Slot} {ad : Nat → Nat} {lv : List (Option zV)} (hd : ∀ d, some (zd d) ∉ lv) {i : Nat} {v : zV} (hi : i < lv.length)
    (h : lv_has ls lv.length ((i, zcv ad v) :: (zlp ad lv).filter (fun q => !(q.1 == i) && !(q.1 + 1 == i && q.2.category == 2)))) : zL ls ad (lv.set i (some v)) := by
  refine ⟨by rw [List.length_set]; exact h.1, h.2.1, fun j w hj => ?_⟩
  rw [List.getElem?_set] at hj
  by_cases e : i = j
  · subst e
    rw [if_pos rfl, if_pos hi] at hj
    cases hj
    exact h.2.2 _ List.mem_cons_self
  · rw [if_neg e] at hj
    refine h.2.2 (j, zcv ad w) (List.mem_cons_of_mem _ (List.mem_filter.mpr ⟨zlp_mem.mpr ⟨w, hj, rfl⟩, ?_⟩))
    have e1 : (j == i) = false := by simp; omega
    have e2 : ((zcv ad w).category == 2) = false := by
      rcases w with x | k | d
      · rfl
      · rfl
      · exact absurd (List.mem_of_getElem? hj) (hd d)
    simp [e1, e2]
theorem zRV_set {lv : List (Option zV)} {st st' : List zV} (h : zRV lv st) {i : Nat} {v : zV} (hv : v ∈ st) (hs : ∀ x ∈ st', x ∈ st) (hd : ∀ d, v ≠ zd d) : zRV (lv.set i (some v)) st' := by
  refine ⟨fun x hx => ?_, fun x hx => h.2.1 x (hs _ hx), fun d hx => ?_⟩
  · rcases List.mem_or_eq_of_mem_set hx with h1 | h1
    · exact h.1 x h1
    · exact h.2.1 x ((Option.some.inj h1) ▸ hv)
  · rcases List.mem_or_eq_of_mem_set hx with h1 | h1
    · exact h.2.2 d h1
    · exact hd d (Option.some.inj h1).symm
-- where a walk stands, and what it is to be
def zNw : List Cond := [.methodLinkNest RX0 67 yX7_isLane "BarStrips", .methodLinkNest RX0 71 yX7_isDay "BarStrips"]
def zN (U : State) : Prop := ∀ q ∈ zNw, va_Nw q U
theorem zN.warm {s U : State} (hW : s.WarmedH U.vm) (h : zN s) : zN U := by
  intro q hq
  have h1 := h q hq
  unfold zNw at hq
  rcases List.mem_cons.mp hq with rfl | hq
  · exact va_Nw.warmM hW h1
  · rcases List.mem_cons.mp hq with rfl | hq
    · exact va_Nw.warmM hW h1
    · exact (List.not_mem_nil hq).elim
theorem zN.same {u U : State} (h : u.vm = U.vm) (hN : zN u) : zN U := by
  intro q hq
  have h1 := hN q hq
  unfold zNw at hq
  rcases List.mem_cons.mp hq with rfl | hq
  · exact va_Nw.same rfl h h1
  · rcases List.mem_cons.mp hq with rfl | hq
    · exact va_Nw.same rfl h h1
    · exact (List.not_mem_nil hq).elim
abbrev zX : Type := Program × Launch × Env × Room × State × MethodId × Array Value × List Frame × Method × Code × va_G × (Nat → ClassId) × (Nat → Nat) × zS × (Nat → Prop) × (zV → zM → Prop)
def zrv (ad : Nat → Nat) (ret : Option FieldType) (v : zV) : Option Value := match ret with
  | none => none
  | some _ => some (zcv ad v)
def zPost (ids : Nat → ClassId) (ad : Nat → Nat) (D : va_G) (shp : zS) (ret : Option FieldType) (A : Nat → Prop) (F : zV → zM → Prop) : Array Value → State → Outcome → State → Prop := fun _ st oc t =>
  (∃ (v : zV) (M : zM), oc = .returned (zrv ad ret v) ∧ (∀ x, v = zi x → i32 x) ∧ zRM M ∧ F v M ∧ va_P D vwCl (zW ids ad M shp) t.heap) ∧ va_F A st t
def zG : zX → zM → Nat → List (Option zV) → List zV → Prop
  | (p, l, e, R, s, m, args, below, meth, c, D, ids, ad, shp, A, F), M, pc, lv, st => zRM M → zRV lv st → ∀ (H : Heap) (locs : List Loc) (ls : Array Slot), va_P D vwCl (zW ids ad M shp) H → va_S A s.heap H locs → zL ls ad lv →
      W p l e R s m args below meth c H locs 0 0 (MQ below (zPost ids ad D shp meth.sig.returnType A F) args s 0 0 A) (F0 m pc ls (st.map (zcv ad)))
def zOK : zX → Launch → ByteArray → Nat → String → Option FieldType → Nat → Nat → zS → (zV → zM → Prop) → Prop
  | (p, l, e, R, s, m, args, below, meth, c, D, ids, ad, shp, A, F), l', cc, nL, own, ret, f, w, shp', F' =>
    l = l' ∧ p.tables.exec = Jvm.exec ∧ c.code = cc ∧ c.maxLocals = nL ∧ s.vm.findClass own = some m.cls ∧ (∀ q ∈ lw_g, q.before args s = true) ∧ va_K D vwCl (zT ids) s ∧ (∀ M, va_D A (zW ids ad M shp)) ∧ (∀ q, s.heap.size ≤ q → A q) ∧ meth.sig.returnType = ret ∧ meth.locks = false ∧ R = ({ frames := f, cells := 0, slots := 0, locals := w } : Room) ∧ shp = shp' ∧ F = F' ∧ zN s
def zMet (l : Launch) (y : MethodName) (cc : ByteArray) (maxL : Nat) (ret : Option FieldType) (f w : Nat) (shp : zS) (av : List zV) (M : zM) (F : zV → zM → Prop) : Prop :=
  zRM M → (∀ x, Sum.inl x ∈ av → i32 x) → ∀ (D : va_G) (ids : Nat → ClassId) (ad : Nat → Nat) (sz : Nat), Met l y (.code y cc maxL ret :: lw_g) ({ frames := f, cells := 0, slots := 0, locals := w } : Room)
    (va_Pc (av.map (zcv ad)) (fun U => U.heap.size = sz ∧ va_P D vwCl (zW ids ad M shp) U.heap ∧ va_K D vwCl (zT ids) U ∧ va_D (fun _ => True) (zW ids ad M shp) ∧ zN U)) (zPost ids ad D shp ret (va_A (zW ids ad M shp) sz) F) 0 0 (va_A (zW ids ad M shp) sz)
def zNd : List zV → Bool
  | [] => true
  | .inr (.inr _) :: _ => false
  | _ :: t => zNd t
theorem zNd_of : ∀ {st : List zV}, zNd st = true → ∀ d, zd d ∉ st
  | [], _, _, h => List.not_mem_nil h
  | .inl x :: t, h, d, hd => (List.mem_cons.mp hd).elim (fun e => nomatch e) (fun q => zNd_of (st := t) h d q)
  | .inr (.inl x) :: t, h, d, hd => (List.mem_cons.mp hd).elim (fun e => nomatch e) (fun q => zNd_of (st := t) h d q)
  | .inr (.inr x) :: t, h, d, hd => nomatch h
theorem z_cat (ad : Nat → Nat) {v : zV} (h : ∀ d, v ≠ zd d) : (zcv ad v).category = 1 := by
  rcases v with x | k | d
  · rfl
  · rfl
  · exact absurd rfl (h d)
theorem z_sl (ad : Nat → Nat) : ∀ (av : List zV), (∀ d, zd d ∉ av) → lg_sl (av.map (zcv ad)) = av.map (fun v => Slot.val (zcv ad v))
  | [], _ => rfl
  | v :: t, h => by
    have h1 : (zcv ad v).category = 1 := z_cat ad (fun d e => h d (e ▸ List.mem_cons_self))
    have ih := z_sl ad t (fun d hd => h d (List.mem_cons_of_mem _ hd))
    unfold lg_sl at ih ⊢
    rw [List.map_cons, List.flatMap_cons, ih, if_neg (by rw [h1]; decide)]
    rfl
def zcs : List zV → Nat
  | [] => 0
  | .inr (.inr _) :: t => 2 + zcs t
  | _ :: t => 1 + zcs t
theorem zcs_eq (ad : Nat → Nat) : ∀ st : List zV, ((st.map (zcv ad)).map fun v => v.category).sum = zcs st
  | [] => rfl
  | .inl x :: t => by rw [List.map_cons, List.map_cons, List.sum_cons, zcs_eq ad t]; rfl
  | .inr (.inl x) :: t => by rw [List.map_cons, List.map_cons, List.sum_cons, zcs_eq ad t]; rfl
  | .inr (.inr x) :: t => by rw [List.map_cons, List.map_cons, List.sum_cons, zcs_eq ad t]; rfl
