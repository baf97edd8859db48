/-! rows for the law; the first state -/
def zXs : zY → Nat → Nat → (Nat → Int32) → Prop
  | (p, l, e, R, s, m, args, below, meth, c, D, ids, A, Q), b, L, xs => va_X b L xs s s.heap ∧ b < s.heap.size ∧ ¬ A b
section ZB
variable {X : zY} {l : Launch} {cc : ByteArray} {nL : Nat} {own : String} {f kc ks w : Nat} {ws : va_W} {ck sn pc : Nat} {lv lv' : List (Option zV)} {st : List zV} {b L : Nat} {xs : Nat → Int32}
theorem zb_sld (C : zOc X l cc nL own f kc ks w) (hXs : zXs X b L xs) {z : Int} (h0 : 0 ≤ z) (h1 : z < L) (d : decode cc pc = .ok (.iaload, 1)) (k : zB X ws ck sn (pc + 1) lv (zi (xs z.toNat).toInt :: st)) : zB X ws ck sn pc lv (zi z :: zr b :: st) := by
  obtain ⟨p, l', e, R, s, m, args, below, meth, c, D, ids, A, Q⟩ := X
  obtain ⟨rfl, hx, hb, hml, hown, hts, hK, hA, hE, hR1, hR2, hR3, hR4⟩ := C
  obtain ⟨x1, x2, x3⟩ := hXs
  intro hV H locs ls hP hD hS hL
  have hz : i32 z := hV.2.1 z List.mem_cons_self
  refine va_sld hx hb x1 x2 x3 hS (zi_in hz h0 h1) d ?_
  rw [zi_nat hz h0]
  have k2 := k (zRV_i hV (zi_rng _) zt2) H locs ls hP hD hS hL
  rw [List.map_cons] at k2
  simp only [zcv, zi_of] at k2
  exact k2
theorem zb_slen (C : zOc X l cc nL own f kc ks w) (hXs : zXs X b L xs) (hL : L ≤ 100000) (d : decode cc pc = .ok (.arraylength, 1)) (k : zB X ws ck sn (pc + 1) lv (zi L :: st)) : zB X ws ck sn pc lv (zr b :: st) := by
  obtain ⟨p, l', e, R, s, m, args, below, meth, c, D, ids, A, Q⟩ := X
  obtain ⟨rfl, hx, hb, hml, hown, hts, hK, hA, hE, hR1, hR2, hR3, hR4⟩ := C
  obtain ⟨x1, x2, x3⟩ := hXs
  intro hV H locs ls hP hD hS hLs
  refine va_slen hx hb x1 x2 x3 hS d ?_
  have k2 := k (zRV_i hV (show i32 (L : Int) by omega) zt1) H locs ls hP hD hS hLs
  rw [List.map_cons] at k2
  simp only [zcv, Int32.ofInt_eq_ofNat] at k2
  exact k2
theorem zb_i2c (C : zOc X l cc nL own f kc ks w) {x : Int} (d : decode cc pc = .ok (.i2c, 1)) (k : zB X ws ck sn (pc + 1) lv (zi (x % 65536) :: st)) : zB X ws ck sn pc lv (zi x :: st) := by
  obtain ⟨p, l', e, R, s, m, args, below, meth, c, D, ids, A, Q⟩ := X
  obtain ⟨rfl, hx, hb, hml, hown, hts, hK, hA, hE, hR1, hR2, hR3, hR4⟩ := C
  intro hV H locs ls hP hD hS hL
  have hz : i32 x := hV.2.1 x List.mem_cons_self
  refine lv_i2c (v := Int32.ofInt (x % 65536)) hx hb d (z_char hz) ?_
  exact k (zRV_i hV (show i32 (x % 65536) by omega) zt1) H locs ls hP hD hS hL
theorem zb_arg (C : zOc X l cc nL own f kc ks w) (hXs : zXs X b L xs) (i kk : Int) {n : Int} (h0 : lv[0]? = some (some (zr b))) (h3 : lv[3]? = some (some (zi i))) (hL : L ≤ 100000) (i0 : 0 ≤ i) (hn : n = kk) (k0 : 0 ≤ kk) (hi : i + kk < L) (d0 : decode cc pc = .ok (.aload_n 0, 1)) (d1 : decode cc (pc + 1) = .ok (.iload_n 3, 1)) (d2 : decode cc (pc + 2) = .ok (.iconst n, 1)) (d3 : decode cc (pc + 3) = .ok (.iadd, 1)) (d4 : decode cc (pc + 4) = .ok (.iaload, 1)) (k : zB X ws ck sn (pc + 5) lv (zi (xs (i + kk).toNat).toInt :: st)) : zB X ws ck sn pc lv st :=
  zb_aload_n (i := 0) C d0 rfl h0 (zb_iload_n (i := 3) C d1 rfl h3 (zb_iconst (x := kk) C d2 (by rw [hn]) (by omega) (zb_iadd C d3 (by omega) (zb_sld C hXs (by omega) hi d4 k))))
end ZB
theorem zra0 : ∀ x, Sum.inl x ∈ ([] : List zV) → i32 x := fun _ h => (List.not_mem_nil h).elim
theorem zra1 {a : Int} (ha : i32 a) : ∀ x, Sum.inl x ∈ [zi a] → i32 x := fun x h => by
  rcases List.mem_cons.mp h with e | h
  · cases e; exact ha
  · exact (List.not_mem_nil h).elim
theorem zra2 {a b : Int} (ha : i32 a) (hb : i32 b) : ∀ x, Sum.inl x ∈ [zi a, zi b] → i32 x := fun x h => by
  rcases List.mem_cons.mp h with e | h
  · cases e; exact ha
  · exact zra1 hb x h
theorem zra3 {a b c : Int} (ha : i32 a) (hb : i32 b) (hc : i32 c) : ∀ x, Sum.inl x ∈ [zi a, zi b, zi c] → i32 x := fun x h => by
  rcases List.mem_cons.mp h with e | h
  · cases e; exact ha
  · exact zra2 hb hc x h
theorem zI_nr {Φ : Int → zM → Prop} : ∀ v M', zI Φ v M' → ∀ j, v ≠ zr j := fun v M' h j e => by
  obtain ⟨z, rfl, _⟩ := h
  cases e
-- the first state
def A00 : zA := fun k j => match k with
  | 11 => 2
  | 12 => if j = 1 then 60 else 0
  | _ => 0
theorem A00_val : Val 0 A00 := by
  refine ⟨⟨?_, ?_⟩, ⟨?_, ?_⟩, ⟨?_, ?_⟩, ⟨?_, ?_⟩, ⟨?_, ?_⟩, fun j j0 j1 => ?_, fun i j i0 ij j1 => ?_, fun j j0 j1 => ?_, fun j j0 j1 => ?_, fun i j i0 i1 => ?_, fun j j0 j1 => ?_, fun i j i0 ij j1 => ?_, fun j j0 j1 => ?_, fun j j0 j1 => ?_, fun j j0 j1 => ?_, ⟨?_, ?_⟩, ⟨?_, ?_⟩⟩
  all_goals first | (show (0 : Int) ≤ 0; decide) | (show (0 : Int) ≤ 30; decide) | (show (0 : Int) ≤ 90; decide) | (show (0 : Int) ≤ 40; decide) | (show (0 : Int) ≤ 200; decide) | (have j1 : j < 0 := j1; omega) | (have i1 : i < 0 := i1; omega) | (show (1 : Int) ≤ 2 ∧ (2 : Int) ≤ 9; decide) | (show (0 : Int) ≤ 2; decide) | (show (10 : Int) ≤ 60; decide) | (show (60 : Int) ≤ 999; decide)
theorem PI_first {Mx Mm : zM} (hx : poX7 Mx) (hm : poX8 Mm) : PI 0 Mx Mm := by
  obtain ⟨⟨M0, h0, hi⟩, h70, h71, h72, h73⟩ := hx
  obtain ⟨m1, m2, m3, m4⟩ := hm
  have e0 : M0 = zup (zup (zfl (fun _ _ => 0) 8 200 2) 9 0 0) 9 1 60 := h0
  have r : ∀ i, i < 8 → ∀ x, Mx i x = 0 := fun i hi8 x => by
    rw [hi i (by omega), e0, zup_other (by omega), zup_other (by omega)]
    unfold zfl
    rw [if_neg (by omega)]
  have r8 : ∀ x, 0 ≤ x → x < 200 → Mx 8 x = 2 := fun x x0 x1 => by
    rw [hi 8 (by omega), e0, zup_other (by omega), zup_other (by omega)]
    unfold zfl
    rw [if_pos ⟨rfl, x0, x1⟩]
  have r9 : ∀ x, 0 ≤ x → x < 2 → Mx 9 x = if x = 1 then 60 else 0 := fun x x0 x1 => by
    rw [hi 9 (by omega), e0]
    by_cases e : x = 1
    · rw [if_pos e, e, zup_at]
    · rw [if_neg e, zup_ne e, show x = 0 by omega, zup_at]
  refine ⟨A00, fun _ => A00, 0, 0, A00, 0, fun _ => 0, ⟨A00_val, by omega, fun i i0 i1 => by omega, Or.inl rfl, fun z => absurd rfl z, by omega, fun i i0 i1 => by omega⟩, ⟨⟨r 0 (by omega) 0, r 0 (by omega) 1, r 0 (by omega) 6, r 0 (by omega) 7, r 0 (by omega) 13, fun j j0 j1 => r 1 (by omega) j, fun j j0 j1 => r 2 (by omega) j, fun j j0 j1 => r 3 (by omega) j, fun j j0 j1 => r 4 (by omega) j, fun j j0 j1 => r 5 (by omega) j, fun j j0 j1 => r 6 (by omega) j, fun j j0 j1 => r 7 (by omega) j, r8, r9⟩, h72, by omega, fun i i0 i1 => by omega, h70, fun z => absurd rfl z, h73, fun i i0 i1 => by omega⟩, ⟨⟨m3 0 (by omega), m3 444 (by omega), m3 121 (by omega), m3 445 (by omega), m3 446 (by omega), fun j j0 j1 => absurd j1 (by show ¬ j < 0; omega), fun j j0 j1 => absurd j1 (by show ¬ j < 0; omega), fun j j0 j1 => absurd j1 (by show ¬ j < 0; omega), fun j j0 j1 => absurd j1 (by show ¬ j < 0; omega), fun j j0 j1 => absurd j1 (by show ¬ j < 0; omega), fun j j0 j1 => absurd j1 (by show ¬ j < 0; omega), fun j j0 j1 => absurd j1 (by show ¬ j < 0; omega), m1, fun j j0 j1 => ?_⟩, m4 0 (by omega) 3, fun i i0 i1 => by omega, m4 0 (by omega) 5, fun z => absurd rfl z, m4 0 (by omega) 7, fun i i0 i1 => by omega⟩⟩
  show Mm 1 (442 + j) = if j = 1 then 60 else 0
  by_cases e : j = 1
  · rw [if_pos e, e]; exact m2
  · rw [if_neg e]; exact m3 _ (by omega)
-- what a case of the law's switch starts from
def lvL (b : Nat) (aX aM : Nat → Nat) (i : Int) : List (Option zV) := [some (zr b), some (zr (aX 70)), some (zr (aM 0)), some (zi i), none, none, none, none]
def lwH (X : zY) (l : Launch) (b L : Nat) (xs : Nat → Int32) (aX aM : Nat → Nat) (q : Nat) (Mx Mm : zM) : Prop :=
  zOc X l code 8 "BarStripsLaw" 11 600000 7302250 416 ∧ zXs X b L xs ∧ L ≤ 2048 ∧ 4 * q + 3 < L ∧ zRM Mx ∧ zRM Mm ∧ PI (6000 * q) Mx Mm ∧ (∀ Mx' Mm' : zM, zRM Mx' → zRM Mm' → PI (6000 * q + 6000) Mx' Mm' → zB X (zW (zYi X) aX Mx' shX ++ zW (zYi X) aM Mm' shM) 99 8103 958 (lvL b aX aM (4 * q)) [])
