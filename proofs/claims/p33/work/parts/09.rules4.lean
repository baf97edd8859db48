/-! static calls, the library's own, switches, doubles -/
section ZQ
variable {X : zX} {l : Launch} {cc : ByteArray} {nL : Nat} {own : String} {ret : Option FieldType} {f w : Nat} {shp : zS} {F : zV → zM → Prop} {M : zM} {pc : Nat} {lv lv' : List (Option zV)} {st : List zV}
theorem z_res {lv : List (Option zV)} {st : List zV} {ret' : Option FieldType} {v : zV} (hV : zRV lv st) (hz : ∀ x, v = zi x → i32 x) : zRV lv (zres ret' v st) := by
  cases ret' with
  | none => exact hV
  | some ty =>
    refine zRV_push hV (fun q hq => ?_)
    rcases List.mem_cons.mp hq with rfl | h1
    · rcases q with x | j | dd
      · exact Or.inr (Or.inl ⟨x, rfl, hz x rfl⟩)
      · exact Or.inr (Or.inr (Or.inl ⟨j, rfl⟩))
      · exact Or.inr (Or.inr (Or.inr ⟨dd, rfl⟩))
    · exact Or.inl h1
theorem zq_callS (C : zOK X l cc nL own ret f w shp F) {idx n maxL f' w' : Nat} {y : MethodName} {bytes : ByteArray} {ret' : Option FieldType} {F' : zV → zM → Prop} {As st0 : List zV} (hm : zMet l y bytes maxL ret' f' w' shp As M F') (hc : zCb own idx y bytes maxL ret' n) (hv : Cond.static y ∈ lw_g) (hn : As.length = n) (hroom : f' + 1 ≤ f ∧ 8 + (maxL + 11) + w' ≤ w) (hst : st0 = As.reverse ++ st) (hlv : lv.length = nL) (h8 : zcs st ≤ 8) (d : decode cc pc = .ok (.invokestatic idx, 3))
    (kk : ∀ (v : zV) (M' : zM), (∀ x, v = zi x → i32 x) → F' v M' → zG X M' (pc + 3) lv (zres ret' v st)) : zG X M pc lv st0 := by
  obtain ⟨p, l', e, R, s, m, args, below, meth, c, D, ids, ad, shp', A, F0'⟩ := X
  obtain ⟨rfl, hx, hb, hml, hown, hts, hK, hD, hA, hr, hlk, hR, rfl, rfl, hN⟩ := C
  intro hM hV H locs ls hP hS hL
  subst hst
  obtain ⟨c1, c2, c3, c4⟩ := hc
  have hmet := hm hM (z_ranges hV (fun v hv => List.mem_append_left _ (List.mem_reverse.mpr hv))) D ids ad H.size
  refine z_after (ret' := ret') (F' := F') (va_runS (As := As.map (zcv ad)) (rest := st.map (zcv ad)) (own := own) (nL := nL) ⟨hx, hb, hml, hown, hts⟩ hmet ⟨callB_of n hts (z_good c3) rfl rfl rfl (hts _ c2) (hts _ c1) c4 (by rw [hR]; exact hroom), hts _ hv⟩ ⟨z_blind, fun U hU hW => ⟨rfl, by rw [hU], by rw [hU]; exact hP, va_K.moved hW.alike hK, (hD M).weaken (fun _ _ _ _ => trivial), hN.warm hW⟩⟩ rfl (by rw [List.length_map]; exact hn) (hL.1.trans hlv) (by show List.map (zcv ad) _ = _; simp) (lv_room (by rw [zcs_eq]; exact h8)) d ⟨by rw [hR]; exact Nat.le_refl _, by rw [hR]; exact Nat.le_refl _⟩) hS (hD M) hA (fun v M' H1 locs1 hz hM' hF' hP1 hS1 => ?_)
  have hV' : zRV lv st := zRV_sub hV (fun q hq => List.mem_append_right _ hq)
  have k2 := kk v M' hz hF' hM' (z_res hV' hz) H1 locs1 ls hP1 hS1 hL
  cases ret' with
  | none => exact k2
  | some ty => exact k2
theorem zq_callSN (C : zOK X l cc nL own ret f w shp F) {idx n maxL f' w' : Nat} {y : MethodName} {host : String} {bytes : ByteArray} {ret' : Option FieldType} {F' : zV → zM → Prop} {As st0 : List zV} (hm : zMet l y bytes maxL ret' f' w' shp As M F') (hc : zCn own idx y host bytes maxL ret' n) (hv : Cond.static y ∈ lw_g) (hn : As.length = n) (hroom : f' + 1 ≤ f ∧ 8 + (maxL + 11) + w' ≤ w) (hst : st0 = As.reverse ++ st) (hlv : lv.length = nL) (h8 : zcs st ≤ 8) (d : decode cc pc = .ok (.invokestatic idx, 3))
    (kk : ∀ (v : zV) (M' : zM), (∀ x, v = zi x → i32 x) → F' v M' → zG X M' (pc + 3) lv (zres ret' v st)) : zG X M pc lv st0 := by
  obtain ⟨p, l', e, R, s, m, args, below, meth, c, D, ids, ad, shp', A, F0'⟩ := X
  obtain ⟨rfl, hx, hb, hml, hown, hts, hK, hD, hA, hr, hlk, hR, rfl, rfl, hN⟩ := C
  intro hM hV H locs ls hP hS hL
  subst hst
  obtain ⟨c1, c2, c3, c4⟩ := hc
  have hmet := hm hM (z_ranges hV (fun v hv => List.mem_append_left _ (List.mem_reverse.mpr hv))) D ids ad H.size
  refine z_after (ret' := ret') (F' := F') (va_runSN (As := As.map (zcv ad)) (rest := st.map (zcv ad)) (own := own) (nL := nL) ⟨hx, hb, hml, hown, hts⟩ hmet ⟨va_cnB n hts (z_good c3) rfl rfl rfl (hN _ c1) (hts _ c2) c4 (by rw [hR]; exact hroom), hts _ hv, trivial⟩ ⟨z_blind, fun U hU hW => ⟨rfl, by rw [hU], by rw [hU]; exact hP, va_K.moved hW.alike hK, (hD M).weaken (fun _ _ _ _ => trivial), hN.warm hW⟩⟩ rfl (by rw [List.length_map]; exact hn) (hL.1.trans hlv) (by show List.map (zcv ad) _ = _; simp) (lv_room (by rw [zcs_eq]; exact h8)) d ⟨by rw [hR]; exact Nat.le_refl _, by rw [hR]; exact Nat.le_refl _⟩) hS (hD M) hA (fun v M' H1 locs1 hz hM' hF' hP1 hS1 => ?_)
  have hV' : zRV lv st := zRV_sub hV (fun q hq => List.mem_append_right _ hq)
  have k2 := kk v M' hz hF' hM' (z_res hV' hz) H1 locs1 ls hP1 hS1 hL
  cases ret' with
  | none => exact k2
  | some ty => exact k2
-- Math
def zMw (own : String) (idx : Nat) (y : MethodName) (bytes : ByteArray) (n : Nat) : Prop := Cond.methodLink own idx y ∈ lw_g ∧ Cond.static y ∈ lw_g ∧ Cond.initialized "java/lang/Math" ∈ lw_g ∧ Cond.code y bytes n (some .int) ∈ lw_g
theorem zq_max (C : zOK X l cc nL own ret f w shp F) {idx : Nat} {x y : Int} (hw : zMw own idx Lib.Math.max.name Lib.Math.max.code 2) (hlv : lv.length = nL) (hroom : 1 ≤ f ∧ zcs st + 13 ≤ w) (d : decode cc pc = .ok (.invokestatic idx, 3)) (kk : zG X M (pc + 3) lv (zi (max x y) :: st)) : zG X M pc lv (zi y :: zi x :: st) := by
  obtain ⟨p, l', e, R, s, m, args, below, meth, c, D, ids, ad, shp', A, F'⟩ := X
  obtain ⟨rfl, hx, hb, hml, hown, hts, hK, hD, hA, hr, hlk, hR, rfl, rfl, hN⟩ := C
  intro hM hV H locs ls hP hS hL
  have h1 : i32 x := hV.2.1 x (List.mem_cons_of_mem _ List.mem_cons_self)
  have h2 : i32 y := hV.2.1 y List.mem_cons_self
  refine va_mmax hx hb (by rw [hml, hL.1, hlv]) hown (hts _ hw.1) (hts _ hw.2.1) (hts _ hw.2.2.1) (hts _ hw.2.2.2) (by rw [hR]; exact hroom.1) (by rw [hR, zcs_eq]; exact hroom.2) (Nat.zero_le _) (Nat.zero_le _) d ?_
  have e : (if Int32.ofInt x < Int32.ofInt y then Int32.ofInt y else Int32.ofInt x) = Int32.ofInt (max x y) := by
    by_cases q : x < y
    · rw [if_pos ((zi_lt h1 h2).mpr q)]; congr 1; omega
    · rw [if_neg (fun z => q ((zi_lt h1 h2).mp z))]; congr 1; omega
  rw [e]
  exact kk hM (zRV_i hV ⟨by omega, by omega⟩ zt2) H locs ls hP hS hL
theorem zq_min (C : zOK X l cc nL own ret f w shp F) {idx : Nat} {x y : Int} (hw : zMw own idx Lib.Math.min.name Lib.Math.min.code 2) (hlv : lv.length = nL) (hroom : 1 ≤ f ∧ zcs st + 13 ≤ w) (d : decode cc pc = .ok (.invokestatic idx, 3)) (kk : zG X M (pc + 3) lv (zi (min x y) :: st)) : zG X M pc lv (zi y :: zi x :: st) := by
  obtain ⟨p, l', e, R, s, m, args, below, meth, c, D, ids, ad, shp', A, F'⟩ := X
  obtain ⟨rfl, hx, hb, hml, hown, hts, hK, hD, hA, hr, hlk, hR, rfl, rfl, hN⟩ := C
  intro hM hV H locs ls hP hS hL
  have h1 : i32 x := hV.2.1 x (List.mem_cons_of_mem _ List.mem_cons_self)
  have h2 : i32 y := hV.2.1 y List.mem_cons_self
  refine va_mmin hx hb (by rw [hml, hL.1, hlv]) hown (hts _ hw.1) (hts _ hw.2.1) (hts _ hw.2.2.1) (hts _ hw.2.2.2) (by rw [hR]; exact hroom.1) (by rw [hR, zcs_eq]; exact hroom.2) (Nat.zero_le _) (Nat.zero_le _) d ?_
  have e : (if Int32.ofInt y < Int32.ofInt x then Int32.ofInt y else Int32.ofInt x) = Int32.ofInt (min x y) := by
    by_cases q : y < x
    · rw [if_pos ((zi_lt h2 h1).mpr q)]; congr 1; omega
    · rw [if_neg (fun z => q ((zi_lt h2 h1).mp z))]; congr 1; omega
  rw [e]
  exact kk hM (zRV_i hV ⟨by omega, by omega⟩ zt2) H locs ls hP hS hL
def zabs (x : Int) : Int := if 0 ≤ x then x else 0 - x
theorem zq_abs (C : zOK X l cc nL own ret f w shp F) {idx : Nat} {x : Int} (hw : zMw own idx Lib.Math.abs.name Lib.Math.abs.code 1) (hlv : lv.length = nL) (hroom : 1 ≤ f ∧ zcs st + 13 ≤ w) (h : i32 (zabs x)) (d : decode cc pc = .ok (.invokestatic idx, 3)) (kk : zG X M (pc + 3) lv (zi (zabs x) :: st)) : zG X M pc lv (zi x :: st) := by
  obtain ⟨p, l', e, R, s, m, args, below, meth, c, D, ids, ad, shp', A, F'⟩ := X
  obtain ⟨rfl, hx, hb, hml, hown, hts, hK, hD, hA, hr, hlk, hR, rfl, rfl, hN⟩ := C
  intro hM hV H locs ls hP hS hL
  have h1 : i32 x := hV.2.1 x List.mem_cons_self
  refine va_mabs hx hb (by rw [hml, hL.1, hlv]) hown (hts _ hw.1) (hts _ hw.2.1) (hts _ hw.2.2.1) (hts _ hw.2.2.2) (by rw [hR]; exact hroom.1) (by rw [hR, zcs_eq]; exact hroom.2) (Nat.zero_le _) (Nat.zero_le _) d ?_
  have e : (if (0 : Int32) ≤ Int32.ofInt x then Int32.ofInt x else 0 - Int32.ofInt x) = Int32.ofInt (zabs x) := by
    have e0 : (0 : Int32) = Int32.ofInt 0 := by decide
    have h0 : i32 0 := by decide
    unfold zabs
    by_cases q : 0 ≤ x
    · rw [if_pos q, e0, if_pos ((zi_le h0 h1).mpr q)]
    · rw [if_neg q, e0, if_neg (fun z => q ((zi_le h0 h1).mp z)), zi_sub]
  rw [e]
  exact kk hM (zRV_i hV h zt1) H locs ls hP hS hL
-- System.arraycopy of rows of ints
def zcp (M : zM) (i : Nat) (sp : Int) (j : Nat) (dp n : Int) : zM := fun a b => if a = j ∧ dp ≤ b ∧ b < dp + n then M i (sp + (b - dp)) else M a b
theorem zcp_rm {M : zM} (h : zRM M) {i j : Nat} {sp dp n : Int} : zRM (zcp M i sp j dp n) := by
  intro a b
  unfold zcp
  split
  · exact h _ _
  · exact h a b
def zAw (own : String) (idx : Nat) : Prop := Cond.methodLink own idx arraycopyName ∈ lw_g ∧ Cond.native arraycopyName ∈ lw_g ∧ Cond.static arraycopyName ∈ lw_g ∧ Cond.initialized "java/lang/System" ∈ lw_g
theorem zq_copy (C : zOK X l cc nL own ret f w shp F) {idx i j n0 n1 : Nat} {sp dp n : Int} {r0 r1 : List (Option Nat)} (hw : zAw own idx) (hi : shp[i]? = some (1, n0, r0)) (hj : shp[j]? = some (1, n1, r1)) (h1 : 0 ≤ sp) (h2 : 0 ≤ dp) (h3 : 0 ≤ n) (h4 : sp + n ≤ n0) (h5 : dp + n ≤ n1) (hlv : lv.length = nL) (hroom : 1 ≤ f ∧ zcs st + 18 ≤ w) (d : decode cc pc = .ok (.invokestatic idx, 3)) (kk : ∀ M1 : zM, M1 = zcp M i sp j dp n → zG X M1 (pc + 3) lv st) : zG X M pc lv (zi n :: zi dp :: zr j :: zi sp :: zr i :: st) := by
  obtain ⟨p, l', e, R, s, m, args, below, meth, c, D, ids, ad, shp', A, F'⟩ := X
  obtain ⟨rfl, hx, hb, hml, hown, hts, hK, hD, hA, hr, hlk, hR, rfl, rfl, hN⟩ := C
  intro hM hV H locs ls hP hS hL
  have hn : i32 n := hV.2.1 n List.mem_cons_self
  have hdp : i32 dp := hV.2.1 dp (List.mem_cons_of_mem _ List.mem_cons_self)
  have hsp : i32 sp := hV.2.1 sp (List.mem_cons_of_mem _ (List.mem_cons_of_mem _ (List.mem_cons_of_mem _ List.mem_cons_self)))
  have h0 : i32 0 := by decide
  have e0 : (0 : Int32) = Int32.ofInt 0 := by decide
  have ng : ∀ {x : Int}, i32 x → 0 ≤ x → ¬ Int32.ofInt x < 0 := fun hx hq z => by rw [e0, zi_lt hx h0] at z; omega
  refine va_copyi (f := fun k => Int32.ofInt (M i k)) (g := fun k => Int32.ofInt (M j k)) hx hb (by rw [hml, hL.1, hlv]) hown (hts _ hw.1) (hts _ hw.2.1) (hts _ hw.2.2.1) (hts _ hw.2.2.2) hK hP (hD M) hS i j 0 0 (zW_get hi) (zW_get hj) rfl rfl rfl (ng hsp h1) (ng hdp h2) (ng hn h3) (by rw [zi_nat hsp h1, zi_nat hn h3]; omega) (by rw [zi_nat hdp h2, zi_nat hn h3]; omega) (fun _ _ => rfl) (by rw [hR]; exact hroom.1) (by rw [hR, zcs_eq]; exact hroom.2) d (fun H1 locs1 hP1 hD1 hS1 => ?_)
  rw [zi_nat hsp h1, zi_nat hdp h2, zi_nat hn h3] at hP1
  have ef : va_cpy (fun k : Nat => Int32.ofInt (M i k)) (fun k : Nat => Int32.ofInt (M j k)) sp.toNat dp.toNat n.toNat = fun k : Nat => Int32.ofInt (zcp M i sp j dp n j k) := by
    funext k
    unfold va_cpy zcp
    by_cases q : dp.toNat ≤ k ∧ k < dp.toNat + n.toNat
    · rw [if_pos q, if_pos ⟨rfl, by omega, by omega⟩]
      have hk : ((sp.toNat + (k - dp.toNat) : Nat) : Int) = sp + ((k : Int) - dp) := by omega
      show Int32.ofInt (M i ((sp.toNat + (k - dp.toNat) : Nat) : Int)) = _
      rw [hk]
    · rw [if_neg q, if_neg (by omega)]
  rw [ef] at hP1
  have eq : (zW ids ad M shp').set j (ad j, Sum.inl (ids 1, n1, Sum.inl fun k : Nat => Int32.ofInt (zcp M i sp j dp n j k))) = zW ids ad (zcp M i sp j dp n) shp' := zW_set hj rfl (fun k hk => by funext b; unfold zcp; rw [if_neg (by omega)])
  rw [eq] at hP1
  exact kk _ rfl (zcp_rm hM) (zRV_sub hV (fun v hv => List.mem_cons_of_mem _ (zt3 v hv |> List.mem_cons_of_mem _))) H1 locs1 ls hP1 hS1 hL
-- switches
theorem zq_tabOut (C : zOK X l cc nL own ret f w shp F) {dflt lo hi : Int} {offs : Array Int} {len tgt : Nat} {x : Int} (d : decode cc pc = .ok (.tableswitch dflt lo hi offs, len)) (h : x < lo ∨ hi < x) (ht : (pc : Int) + dflt = (tgt : Int)) (k : zG X M tgt lv st) : zG X M pc lv (zi x :: st) := by
  obtain ⟨p, l', e, R, s, m, args, below, meth, c, D, ids, ad, shp', A, F'⟩ := X
  obtain ⟨rfl, hx, hb, hml, hown, hts, hK, hD, hA, hr, hlk, hR, rfl, rfl, hN⟩ := C
  intro hM hV H locs ls hP hS hL
  have h1 : i32 x := hV.2.1 x List.mem_cons_self
  exact lv_tableOut hx hb d (by rw [zi_to h1]; exact h) ht (k hM (zRV_sub hV zt1) H locs ls hP hS hL)
theorem zq_tabIn (C : zOK X l cc nL own ret f w shp F) {dflt lo hi off : Int} {offs : Array Int} {len tgt : Nat} {x : Int} (d : decode cc pc = .ok (.tableswitch dflt lo hi offs, len)) (h1 : ¬ x < lo) (h2 : ¬ hi < x) (ho : offs[(x - lo).toNat]? = some off) (ht : (pc : Int) + off = (tgt : Int)) (k : zG X M tgt lv st) : zG X M pc lv (zi x :: st) := by
  obtain ⟨p, l', e, R, s, m, args, below, meth, c, D, ids, ad, shp', A, F'⟩ := X
  obtain ⟨rfl, hx, hb, hml, hown, hts, hK, hD, hA, hr, hlk, hR, rfl, rfl, hN⟩ := C
  intro hM hV H locs ls hP hS hL
  have h3 : i32 x := hV.2.1 x List.mem_cons_self
  exact lv_tableIn hx hb d (by rw [zi_to h3]; exact h1) (by rw [zi_to h3]; exact h2) (by rw [zi_to h3]; exact ho) ht (k hM (zRV_sub hV zt1) H locs ls hP hS hL)
theorem zq_lookup (C : zOK X l cc nL own ret f w shp F) {dflt off : Int} {ps : Array (Int × Int)} {len tgt : Nat} {x : Int} (d : decode cc pc = .ok (.lookupswitch dflt ps, len)) (hp : (ps.toList.zip (ps.toList.drop 1)).all (fun (a, next) => a.1 < next.1) = true) (ho : Op.lookupswitch.offset ps.toList dflt x = off) (ht : (pc : Int) + off = (tgt : Int)) (k : zG X M tgt lv st) : zG X M pc lv (zi x :: st) := by
  obtain ⟨p, l', e, R, s, m, args, below, meth, c, D, ids, ad, shp', A, F'⟩ := X
  obtain ⟨rfl, hx, hb, hml, hown, hts, hK, hD, hA, hr, hlk, hR, rfl, rfl, hN⟩ := C
  intro hM hV H locs ls hP hS hL
  have h1 : i32 x := hV.2.1 x List.mem_cons_self
  exact lv_lookup hx hb d hp (by rw [zi_to h1]; exact ho) ht (k hM (zRV_sub hV zt1) H locs ls hP hS hL)
-- doubles
theorem zq_dconst0 (C : zOK X l cc nL own ret f w shp F) (d : decode cc pc = .ok (.dconst 0, 1)) (k : zG X M (pc + 1) lv (zd 0 :: st)) : zG X M pc lv st := by
  obtain ⟨p, l', e, R, s, m, args, below, meth, c, D, ids, ad, shp', A, F'⟩ := X
  obtain ⟨rfl, hx, hb, hml, hown, hts, hK, hD, hA, hr, hlk, hR, rfl, rfl, hN⟩ := C
  intro hM hV H locs ls hP hS hL
  exact lv_dconst0 hx hb d (k hM (zRV_d hV zt0) H locs ls hP hS hL)
theorem zq_i2d (C : zOK X l cc nL own ret f w shp F) {x : Int} (d : decode cc pc = .ok (.i2d, 1)) (k : zG X M (pc + 1) lv (zd (FP.i2d (Int32.ofInt x)) :: st)) : zG X M pc lv (zi x :: st) := by
  obtain ⟨p, l', e, R, s, m, args, below, meth, c, D, ids, ad, shp', A, F'⟩ := X
  obtain ⟨rfl, hx, hb, hml, hown, hts, hK, hD, hA, hr, hlk, hR, rfl, rfl, hN⟩ := C
  intro hM hV H locs ls hP hS hL
  exact lv_i2d hx hb d (k hM (zRV_d hV zt1) H locs ls hP hS hL)
theorem zq_ddiv (C : zOK X l cc nL own ret f w shp F) {x y : UInt64} (hne : vf_n64 (FP.ddiv x y)) (d : decode cc pc = .ok (.ddiv, 1)) (k : zG X M (pc + 1) lv (zd (FP.ddiv x y) :: st)) : zG X M pc lv (zd y :: zd x :: st) := by
  obtain ⟨p, l', e, R, s, m, args, below, meth, c, D, ids, ad, shp', A, F'⟩ := X
  obtain ⟨rfl, hx, hb, hml, hown, hts, hK, hD, hA, hr, hlk, hR, rfl, rfl, hN⟩ := C
  intro hM hV H locs ls hP hS hL
  exact lv_ddiv hx hb d hne (k hM (zRV_d hV zt2) H locs ls hP hS hL)
theorem zq_dmul (C : zOK X l cc nL own ret f w shp F) {x y : UInt64} (hne : vf_n64 (FP.dmul x y)) (d : decode cc pc = .ok (.dmul, 1)) (k : zG X M (pc + 1) lv (zd (FP.dmul x y) :: st)) : zG X M pc lv (zd y :: zd x :: st) := by
  obtain ⟨p, l', e, R, s, m, args, below, meth, c, D, ids, ad, shp', A, F'⟩ := X
  obtain ⟨rfl, hx, hb, hml, hown, hts, hK, hD, hA, hr, hlk, hR, rfl, rfl, hN⟩ := C
  intro hM hV H locs ls hP hS hL
  exact lv_dmul hx hb d hne (k hM (zRV_d hV zt2) H locs ls hP hS hL)
theorem zq_dret (C : zOK X l cc nL own ret f w shp F) {x : UInt64} (hret : ret = some .double) (hF : F (zd x) M) (d : decode cc pc = .ok (.dreturn, 1)) : zG X M pc lv [zd x] := by
  obtain ⟨p, l', e, R, s, m, args, below, meth, c, D, ids, ad, shp', A, F'⟩ := X
  obtain ⟨rfl, hx, hb, hml, hown, hts, hK, hD, hA, hr, hlk, hR, rfl, rfl, hN⟩ := C
  intro hM hV H locs ls hP hS hL
  subst hret
  exact W.dret (v := x) hx hb hr (fun t ht hW => ⟨⟨zd x, M, by rw [hr]; rfl, (fun y e => nomatch e), hM, hF, by rw [ht]; exact hP⟩, hS.F ht⟩) hS.2.2 d hlk
end ZQ
-- the calls by what comes back
def zI (Φ : Int → zM → Prop) : zV → zM → Prop := fun v M => ∃ z, v = zi z ∧ Φ z M
def zU (Φ : zM → Prop) : zV → zM → Prop := fun _ M => Φ M
section ZQ2
variable {X : zX} {l : Launch} {cc : ByteArray} {nL : Nat} {own : String} {ret : Option FieldType} {f w : Nat} {shp : zS} {F : zV → zM → Prop} {M : zM} {pc : Nat} {lv lv' : List (Option zV)} {st : List zV}
theorem zq_callVi (C : zOK X l cc nL own ret f w shp F) {i idx ci n maxL f' w' : Nat} {y : MethodName} {bytes : ByteArray} {ty : FieldType} {Φ : Int → zM → Prop} {st0 : List zV} {fl : List (Option Nat)} {T : u_T} {N : Nat} (As : List zV) (hm : zMet l y bytes maxL (some ty) f' w' shp (zr i :: As) M (zI Φ)) (hc : zCb own idx y bytes maxL (some ty) n) (hv : Cond.instanceMethod y ∈ lw_g ∧ Cond.selects y.cls y y ∈ lw_g) (hn : As.length = n) (hs : shp[i]? = some (0, ci, fl)) (hci : vwCl[ci]? = some (y.cls, T, N)) (hr1 : Nat.ble (f' + 1) f = true) (hr2 : Nat.ble (8 + (maxL + 11) + w') w = true) (hst : st0 = As.reverse ++ zr i :: st) (hlv : lv.length = nL) (h8 : Nat.ble (zcs st) 8 = true) (d : decode cc pc = .ok (.invokevirtual idx, 3))
    (kk : ∀ (z : Int) (M' : zM), Φ z M' → zG X M' (pc + 3) lv (zi z :: st)) : zG X M pc lv st0 :=
  zq_callV C hm hc hv hn hs hci ⟨Nat.le_of_ble_eq_true hr1, Nat.le_of_ble_eq_true hr2⟩ hst hlv (Nat.le_of_ble_eq_true h8) d (fun v M' hz hF => by obtain ⟨z, rfl, hJ⟩ := hF; exact kk z M' hJ)
theorem zq_callVv (C : zOK X l cc nL own ret f w shp F) {i idx ci n maxL f' w' : Nat} {y : MethodName} {bytes : ByteArray} {Φ : zM → Prop} {st0 : List zV} {fl : List (Option Nat)} {T : u_T} {N : Nat} (As : List zV) (hm : zMet l y bytes maxL none f' w' shp (zr i :: As) M (zU Φ)) (hc : zCb own idx y bytes maxL none n) (hv : Cond.instanceMethod y ∈ lw_g ∧ Cond.selects y.cls y y ∈ lw_g) (hn : As.length = n) (hs : shp[i]? = some (0, ci, fl)) (hci : vwCl[ci]? = some (y.cls, T, N)) (hr1 : Nat.ble (f' + 1) f = true) (hr2 : Nat.ble (8 + (maxL + 11) + w') w = true) (hst : st0 = As.reverse ++ zr i :: st) (hlv : lv.length = nL) (h8 : Nat.ble (zcs st) 8 = true) (d : decode cc pc = .ok (.invokevirtual idx, 3))
    (kk : ∀ (M' : zM), Φ M' → zG X M' (pc + 3) lv st) : zG X M pc lv st0 :=
  zq_callV C hm hc hv hn hs hci ⟨Nat.le_of_ble_eq_true hr1, Nat.le_of_ble_eq_true hr2⟩ hst hlv (Nat.le_of_ble_eq_true h8) d (fun v M' hz hF => kk M' hF)
theorem zq_callSi (C : zOK X l cc nL own ret f w shp F) {idx n maxL f' w' : Nat} {y : MethodName} {bytes : ByteArray} {ty : FieldType} {Φ : Int → zM → Prop} {st0 : List zV} (As : List zV) (hm : zMet l y bytes maxL (some ty) f' w' shp As M (zI Φ)) (hc : zCb own idx y bytes maxL (some ty) n) (hv : Cond.static y ∈ lw_g) (hn : As.length = n) (hr1 : Nat.ble (f' + 1) f = true) (hr2 : Nat.ble (8 + (maxL + 11) + w') w = true) (hst : st0 = As.reverse ++ st) (hlv : lv.length = nL) (h8 : Nat.ble (zcs st) 8 = true) (d : decode cc pc = .ok (.invokestatic idx, 3))
    (kk : ∀ (z : Int) (M' : zM), Φ z M' → zG X M' (pc + 3) lv (zi z :: st)) : zG X M pc lv st0 :=
  zq_callS C hm hc hv hn ⟨Nat.le_of_ble_eq_true hr1, Nat.le_of_ble_eq_true hr2⟩ hst hlv (Nat.le_of_ble_eq_true h8) d (fun v M' hz hF => by obtain ⟨z, rfl, hJ⟩ := hF; exact kk z M' hJ)
theorem zq_callSv (C : zOK X l cc nL own ret f w shp F) {idx n maxL f' w' : Nat} {y : MethodName} {bytes : ByteArray} {Φ : zM → Prop} {st0 : List zV} (As : List zV) (hm : zMet l y bytes maxL none f' w' shp As M (zU Φ)) (hc : zCb own idx y bytes maxL none n) (hv : Cond.static y ∈ lw_g) (hn : As.length = n) (hr1 : Nat.ble (f' + 1) f = true) (hr2 : Nat.ble (8 + (maxL + 11) + w') w = true) (hst : st0 = As.reverse ++ st) (hlv : lv.length = nL) (h8 : Nat.ble (zcs st) 8 = true) (d : decode cc pc = .ok (.invokestatic idx, 3))
    (kk : ∀ (M' : zM), Φ M' → zG X M' (pc + 3) lv st) : zG X M pc lv st0 :=
  zq_callS C hm hc hv hn ⟨Nat.le_of_ble_eq_true hr1, Nat.le_of_ble_eq_true hr2⟩ hst hlv (Nat.le_of_ble_eq_true h8) d (fun v M' hz hF => kk M' hF)
theorem zq_callSNi (C : zOK X l cc nL own ret f w shp F) {idx n maxL f' w' : Nat} {y : MethodName} {host : String} {bytes : ByteArray} {ty : FieldType} {Φ : Int → zM → Prop} {st0 : List zV} (As : List zV) (hm : zMet l y bytes maxL (some ty) f' w' shp As M (zI Φ)) (hc : zCn own idx y host bytes maxL (some ty) n) (hv : Cond.static y ∈ lw_g) (hn : As.length = n) (hr1 : Nat.ble (f' + 1) f = true) (hr2 : Nat.ble (8 + (maxL + 11) + w') w = true) (hst : st0 = As.reverse ++ st) (hlv : lv.length = nL) (h8 : Nat.ble (zcs st) 8 = true) (d : decode cc pc = .ok (.invokestatic idx, 3))
    (kk : ∀ (z : Int) (M' : zM), Φ z M' → zG X M' (pc + 3) lv (zi z :: st)) : zG X M pc lv st0 :=
  zq_callSN C hm hc hv hn ⟨Nat.le_of_ble_eq_true hr1, Nat.le_of_ble_eq_true hr2⟩ hst hlv (Nat.le_of_ble_eq_true h8) d (fun v M' hz hF => by obtain ⟨z, rfl, hJ⟩ := hF; exact kk z M' hJ)
-- fewer locals known; loops
def zwk : List (Option zV) → List (Option zV) → Prop
  | [], [] => True
  | a :: t, b :: u => (b = none ∨ a = b) ∧ zwk t u
  | _, _ => False
theorem zwk_len : ∀ {a b : List (Option zV)}, zwk a b → a.length = b.length ∧ ∀ (i : Nat) (v : zV), b[i]? = some (some v) → a[i]? = some (some v)
  | [], [], _ => ⟨rfl, fun i v h => by cases h⟩
  | [], _ :: _, h => h.elim
  | _ :: _, [], h => h.elim
  | a :: t, b :: u, h => by
    obtain ⟨h1, h2⟩ := zwk_len h.2
    refine ⟨by simp [h1], fun i v hi => ?_⟩
    cases i with
    | zero =>
      rcases h.1 with e | e
      · rw [e] at hi; cases hi
      · rw [e]; exact hi
    | succ i => exact h2 i v hi
theorem zq_weak (lv' : List (Option zV)) (h : zwk lv lv') (k : zG X M pc lv' st) : zG X M pc lv st := by
  obtain ⟨p, l', e, R, s, m, args, below, meth, c, D, ids, ad, shp', A, F'⟩ := X
  intro hM hV H locs ls hP hS hL
  obtain ⟨h1, h2⟩ := zwk_len h
  refine k hM ⟨fun x hx => ?_, hV.2.1, fun d hd => ?_⟩ H locs ls hP hS ⟨hL.1.trans h1, hL.2.1, fun i v hi => hL.2.2 i v (h2 i v hi)⟩
  · obtain ⟨i, hi⟩ := List.getElem?_of_mem hx
    exact hV.1 x (List.mem_of_getElem? (h2 i _ hi))
  · obtain ⟨i, hi⟩ := List.getElem?_of_mem hd
    exact hV.2.2 d (List.mem_of_getElem? (h2 i _ hi))
end ZQ2
def zloop {S : Type} (body : (S → Prop) → S → Prop) : Nat → S → Prop
  | 0, _ => False
  | n + 1, s => body (zloop body n) s
def zwh {S : Type} (body : (S → Prop) → S → Prop) (s : S) : Prop := ∃ n, zloop body n s
theorem zwh_sound {S : Type} {body : (S → Prop) → S → Prop} {G : S → Prop} (h : ∀ (K : S → Prop) (s : S), (∀ s', K s' → G s') → body K s → G s) : ∀ s, zwh body s → G s := by
  rintro s ⟨n, hn⟩
  induction n generalizing s with
  | zero => exact hn.elim
  | succ n ih => exact h _ s ih hn
theorem zwh_run {S : Type} {body : (S → Prop) → S → Prop} (I : S → Prop) (μ : S → Nat) (h : ∀ (K : S → Prop) (s : S), I s → (∀ s', I s' → μ s' < μ s → K s') → body K s) : ∀ s, I s → zwh body s := by
  have key : ∀ n s, I s → μ s < n → zloop body n s := by
    intro n
    induction n with
    | zero => intro s _ h; exact absurd h (Nat.not_lt_zero _)
    | succ n ih => intro s hi hn; exact h _ s hi (fun s' hi' hm => ih s' hi' (by omega))
  exact fun s hi => ⟨μ s + 1, key _ s hi (Nat.lt_succ_self _)⟩
