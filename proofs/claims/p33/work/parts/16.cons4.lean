/-! an object made and its constructor called; rows over shapes -/
section ZB
variable {X : zY} {l : Launch} {cc : ByteArray} {nL : Nat} {own : String} {f kc ks w : Nat} {pre ws wr : va_W} {ck sn pc : Nat} {lv lv' : List (Option zV)} {st : List zV}
theorem zb_nil (k : zB X (ws ++ []) ck sn pc lv st) : zB X ws ck sn pc lv st := by rw [List.append_nil] at k; exact k
theorem zb_app (k : zB X ws ck sn pc lv st) : zB X (ws ++ []) ck sn pc lv st := by rw [List.append_nil]; exact k
def zNk (own : String) (idx : Nat) (CC : String) (T : u_T) (N ci : Nat) (fs : List Value) : Prop := Cond.classLink own idx CC ∈ lw_g ∧ Cond.instantiable CC N ∈ lw_g ∧ Cond.initialized CC ∈ lw_g ∧ (∀ q ∈ u_ws CC T N, q ∈ lw_g) ∧ vwCl[ci]? = some (CC, T, N) ∧ ∃ ty : Nat → FieldType, (∀ k, k < N → parseFieldDescriptor (T k).2.2.1 = some (ty k)) ∧ ∀ j, j < N → defaultValue (ty j) = vp_V fs j
theorem zb_newI (C : zOc X l cc nL own f kc ks w) {CC : String} {T : u_T} {N ci idx1 idx2 maxL f' kc' ks' w' root : Nat} {fs : List Value} {y : MethodName} {bytes : ByteArray} {shp : zS} {post : zM → Prop} (hN : zNk own idx1 CC T N ci fs) (hm : zIni l y bytes maxL f' kc' ks' w' ci fs root shp post) (hc : zCb own idx2 y bytes maxL none 0) (hi : Cond.instanceMethod y ∈ lw_g) (hy1 : y.name = "<init>") (hr1 : f' + 1 ≤ f) (hr2 : 8 + (maxL + 11) + w' ≤ w) (hck : ck + 1 + kc' ≤ kc) (hsn : sn + N + ks' ≤ ks) (hlv : lv.length = nL) (h8 : 1 + zcs st ≤ 8) (d1 : decode cc pc = .ok (.new idx1, 3)) (d2 : decode cc (pc + 3) = .ok (.dup, 1)) (d3 : decode cc (pc + 4) = .ok (.invokespecial idx2, 3))
    (k : ∀ (a : Nat → Nat) (M : zM), zRM M → post M → zB X (pre ++ (zW (zYi X) a M shp ++ ws)) (ck + 1 + kc') (sn + N + ks') (pc + 7) lv (zr (a root) :: st)) : zB X (pre ++ ws) ck sn pc lv st := by
  obtain ⟨n1, n2, n3, n4, n5, ty, n6, n7⟩ := hN
  refine zb_new C n1 n2 n3 n4 ty n6 n5 n7 (Nat.le_trans (Nat.le_add_right _ _) hck) (Nat.le_trans (Nat.le_add_right _ _) hsn) d1 (fun q => ?_)
  refine zb_dup C d2 rfl ?_
  refine zb_perm (ws' := (q, .inr (ci, fs)) :: (pre ++ ws)) (List.perm_append_comm (l₁ := pre ++ ws) (l₂ := [(q, .inr (ci, fs))])) ?_
  refine zb_callI C hm hc hi hy1 ⟨hr1, hr2⟩ hck hsn hlv (by show 1 + zcs st ≤ 8; exact h8) d3 (fun a M ha hM hp => ?_)
  refine zb_perm (ws' := pre ++ (zW (zYi X) a M shp ++ ws)) (List.perm_append_comm_assoc _ _ _) ?_
  have := k a M hM hp
  rw [ha] at this
  exact this
theorem zb_newIN (C : zOc X l cc nL own f kc ks w) {CC : String} {T : u_T} {N ci idx1 idx2 maxL f' kc' ks' w' root : Nat} {fs : List Value} {y : MethodName} {host : String} {bytes : ByteArray} {shp : zS} {post : zM → Prop} (hN : zNk own idx1 CC T N ci fs) (hm : zIni l y bytes maxL f' kc' ks' w' ci fs root shp post) (hn : Cond.methodLinkNest own idx2 y host ∈ zNi) (hini : Cond.initialized y.cls ∈ lw_g) (hcode : Cond.code y bytes maxL none ∈ lw_g) (hd : y.cls ≠ "java/lang/invoke/MethodHandle" ∧ y.cls ≠ "java/lang/invoke/VarHandle" ∧ (parseMethodDescriptor y.desc).map (fun d => d.parameters.length) = some 0) (hi : Cond.instanceMethod y ∈ lw_g) (hy1 : y.name = "<init>") (hr1 : f' + 1 ≤ f) (hr2 : 8 + (maxL + 11) + w' ≤ w) (hck : ck + 1 + kc' ≤ kc) (hsn : sn + N + ks' ≤ ks) (hlv : lv.length = nL) (h8 : 1 + zcs st ≤ 8) (d1 : decode cc pc = .ok (.new idx1, 3)) (d2 : decode cc (pc + 3) = .ok (.dup, 1)) (d3 : decode cc (pc + 4) = .ok (.invokespecial idx2, 3))
    (k : ∀ (a : Nat → Nat) (M : zM), zRM M → post M → zB X (pre ++ (zW (zYi X) a M shp ++ ws)) (ck + 1 + kc') (sn + N + ks') (pc + 7) lv (zr (a root) :: st)) : zB X (pre ++ ws) ck sn pc lv st := by
  obtain ⟨n1, n2, n3, n4, n5, ty, n6, n7⟩ := hN
  refine zb_new C n1 n2 n3 n4 ty n6 n5 n7 (Nat.le_trans (Nat.le_add_right _ _) hck) (Nat.le_trans (Nat.le_add_right _ _) hsn) d1 (fun q => ?_)
  refine zb_dup C d2 rfl ?_
  refine zb_perm (ws' := (q, .inr (ci, fs)) :: (pre ++ ws)) (List.perm_append_comm (l₁ := pre ++ ws) (l₂ := [(q, .inr (ci, fs))])) ?_
  refine zb_callIN C hm hn hini hcode hd hi hy1 ⟨hr1, hr2⟩ hck hsn hlv (by show 1 + zcs st ≤ 8; exact h8) d3 (fun a M ha hM hp => ?_)
  refine zb_perm (ws' := pre ++ (zW (zYi X) a M shp ++ ws)) (List.perm_append_comm_assoc _ _ _) ?_
  have := k a M hM hp
  rw [ha] at this
  exact this
theorem zb_iastW (C : zOc X l cc nL own f kc ks w) {i n : Nat} {z x : Int} {ad : Nat → Nat} {M : zM} {shp : zS} {x0 : List (Option Nat)} (hs : shp[i]? = some (1, n, x0)) (h0 : 0 ≤ z) (h1 : z < n) (d : decode cc pc = .ok (.iastore, 1)) (k : zB X (zW (zYi X) ad (zup M i z x) shp) ck sn (pc + 1) lv st) : zB X (zW (zYi X) ad M shp) ck sn pc lv (zi x :: zi z :: zr (ad i) :: st) :=
  zb_iast C (g := fun j : Nat => Int32.ofInt (M i j)) i (zW_get hs) h0 h1 (z_upd h0) (zW_set hs rfl (fun j hj => zup_other hj)) d k
theorem zb_getrW (C : zOc X l cc nL own f kc ks w) {i j idx ci k0 : Nat} {ty : FieldType} {fin : Bool} {ad : Nat → Nat} {M : zM} {shp : zS} {fl : List (Option Nat)} (hs : shp[i]? = some (0, ci, fl)) (hF : zFok own idx ci k0 ty fin) (hk : fl[k0]? = some (some j)) (d : decode cc pc = .ok (.getfield idx, 3)) (k : zB X (zW (zYi X) ad M shp) ck sn (pc + 3) lv (zr (ad j) :: st)) : zB X (zW (zYi X) ad M shp) ck sn pc lv (zr (ad i) :: st) :=
  zb_getr C i (zW_get hs) hF (zfs_get hk) d k
end ZB
