/-! a bar taken away: the reference's side, the act -/
section AC
variable {A A' S : zA} {H : Int → zA} {h fl L B : Int} {T : Int → Int} {M M2 Mm Mx' : zM} {b : Nat}
theorem takesBarEnd_ok (hr : RV A (M 1)) (hv : Val B A) {s c bar : Int} (s0 : 0 ≤ s) (s1 : s < A 0 0) (ho : offP A s 0) {Φ : Int → zM → Prop} (k : ∀ M', (∀ a, a ≠ 1 → M' a = M a) → RV (delA A s) (M' 1) → Φ c M') : i32 ((M 1 0) - 1) ∧ ∀ M6 : zM, M6 = zup M 1 0 ((M 1 0) - 1) → i32 (4 * s) ∧ i32 (1 + (4 * s)) ∧ ∀ v4_9 : Int, v4_9 = (1 + (4 * s)) → zwh (fun K v => jM_takesBar_L84 bar K Φ c (v.1) (v.2)) (v4_9, M6) := by
  have hn := hv.n
  have ha := hv.a
  rw [hr.n]
  refine ⟨by omega, ?_⟩
  rintro M0 e0
  have o0 : ∀ a, a ≠ 1 → M0 a = M a := fun a q => by rw [e0, zup_other q]
  have on : M0 1 0 = A 0 0 - 1 := by rw [e0, zup_at]
  have ob : ∀ x, x ≠ 0 → M0 1 x = M 1 x := fun x q => by rw [e0, zup_ne q]
  refine ⟨by omega, by omega, ?_⟩
  rintro _ rfl
  refine zwh_run (fun v : Int × zM => 1 + 4 * s ≤ v.1 ∧ v.1 ≤ 1 + 4 * (A 0 0 - 1) ∧ (∀ a, a ≠ 1 → v.2 a = M a) ∧ ∀ x, v.2 1 x = (if 1 + 4 * s ≤ x ∧ x < v.1 then M0 1 (x + 4) else M0 1 x)) (fun v => (1 + 4 * A 0 0 - v.1).toNat) ?_ (1 + 4 * s, M0) ⟨Int.le_refl _, (show 1 + 4 * s ≤ 1 + 4 * (A 0 0 - 1) by omega), o0, fun x => by rw [if_neg (by show ¬ (1 + 4 * s ≤ x ∧ x < 1 + 4 * s); omega)]⟩
  rintro K ⟨y, M1⟩ ⟨y0, y1, hs, hx⟩ hK
  have y0 : 1 + 4 * s ≤ y := y0
  have y1 : y ≤ 1 + 4 * (A 0 0 - 1) := y1
  have hs : ∀ a, a ≠ 1 → M1 a = M a := hs
  have hxn : ∀ x, M1 1 x = (if 1 + 4 * s ≤ x ∧ x < y then M0 1 (x + 4) else M0 1 x) := hx
  have h0 : M1 1 0 = A 0 0 - 1 := by rw [hxn, if_neg (by omega)]; exact on
  show jM_takesBar_L84 bar K Φ c y M1
  unfold jM_takesBar_L84
  rw [h0]
  refine ⟨by omega, by omega, fun q => ?_, fun q => ⟨by omega, by omega, by omega, by omega, by omega, ?_⟩⟩
  · have ey : y = 1 + 4 * (A 0 0 - 1) := by omega
    clear hK
    refine zwh_run (fun v : Int × zM => 0 ≤ v.1 ∧ v.1 ≤ 4 ∧ (∀ a, a ≠ 1 → v.2 a = M a) ∧ ∀ x, (x < y ∨ y + 4 ≤ x) → v.2 1 x = M1 1 x) (fun v => (4 - v.1).toNat) ?_ (0, M1) ⟨Int.le_refl 0, (show (0 : Int) ≤ 4 by decide), hs, fun _ _ => rfl⟩
    rintro K ⟨z, M3⟩ ⟨z0, z1, hs3, hx3⟩ hK
    have z0 : 0 ≤ z := z0
    have z1 : z ≤ 4 := z1
    have hs3 : ∀ a, a ≠ 1 → M3 a = M a := hs3
    have hx3 : ∀ x, (x < y ∨ y + 4 ≤ x) → M3 1 x = M1 1 x := hx3
    have h3 : M3 1 0 = A 0 0 - 1 := by rw [hx3 0 (by omega)]; exact h0
    show jM_takesBar_L124 bar K Φ c z M3
    unfold jM_takesBar_L124
    rw [h3]
    refine ⟨fun q2 => ?_, fun q2 => ⟨by omega, by omega, by omega, by omega, by omega, ?_⟩⟩
    · have lo : ∀ x, x < 1 + 4 * s → x ≠ 0 → M3 1 x = M 1 x := fun x q q2 => by rw [hx3 x (by omega), hxn, if_neg (by omega), ob x q2]
      have mi : ∀ x, 1 + 4 * s ≤ x → x < y → M3 1 x = M 1 (x + 4) := fun x q q2 => by rw [hx3 x (by omega), hxn, if_pos ⟨q, q2⟩, ob _ (by omega)]
      have hi : ∀ x, y + 4 ≤ x → M3 1 x = M 1 x := fun x q => by rw [hx3 x (by omega), hxn, if_neg (by omega), ob x (by omega)]
      refine k M3 hs3 ⟨h3, by rw [hi _ (by omega)]; exact hr.ever, by rw [hi _ (by omega)]; exact hr.a, by rw [hi _ (by omega)]; exact hr.aever, by rw [hi _ (by omega)]; exact hr.slip, fun x x0 x1 => ?_, fun x x0 x1 => ?_, fun x x0 x1 => ?_, fun x x0 x1 => ?_, fun x x0 x1 => ?_, fun x x0 x1 => ?_, fun x x0 x1 => ?_, fun x x0 x1 => ?_, fun x x0 x1 => ?_⟩
      · have x1 : x < A 0 0 - 1 := x1
        by_cases q : x < s
        · rw [(delA_lt q).1, lo _ (by omega) (by omega)]; exact hr.num x x0 (by omega)
        · rw [(delA_ge q).1, mi _ (by omega) (by omega), show 1 + 4 * x + 0 + 4 = 1 + 4 * (x + 1) + 0 by omega]; exact hr.num (x + 1) (by omega) (by omega)
      · have x1 : x < A 0 0 - 1 := x1
        by_cases q : x < s
        · rw [(delA_lt q).2.1, lo _ (by omega) (by omega)]; exact hr.lane x x0 (by omega)
        · rw [(delA_ge q).2.1, mi _ (by omega) (by omega), show 1 + 4 * x + 1 + 4 = 1 + 4 * (x + 1) + 1 by omega]; exact hr.lane (x + 1) (by omega) (by omega)
      · have x1 : x < A 0 0 - 1 := x1
        by_cases q : x < s
        · rw [(delA_lt q).2.2.1, lo _ (by omega) (by omega)]; exact hr.first x x0 (by omega)
        · rw [(delA_ge q).2.2.1, mi _ (by omega) (by omega), show 1 + 4 * x + 2 + 4 = 1 + 4 * (x + 1) + 2 by omega]; exact hr.first (x + 1) (by omega) (by omega)
      · have x1 : x < A 0 0 - 1 := x1
        by_cases q : x < s
        · rw [(delA_lt q).2.2.2, lo _ (by omega) (by omega)]; exact hr.days x x0 (by omega)
        · rw [(delA_ge q).2.2.2, mi _ (by omega) (by omega), show 1 + 4 * x + 3 + 4 = 1 + 4 * (x + 1) + 3 by omega]; exact hr.days (x + 1) (by omega) (by omega)
      · have x1 : x < A 6 0 := x1
        rw [hi _ (by omega)]; exact hr.anum x x0 x1
      · have x1 : x < A 6 0 := x1
        rw [hi _ (by omega), (delA_mp s _).1, (delA_9 (ho x x0 x1).1).1]; exact hr.from x x0 x1
      · have x1 : x < A 6 0 := x1
        rw [hi _ (by omega), (delA_mp s _).1, (delA_10 (ho x x0 x1).2).1]; exact hr.to x x0 x1
      · rw [hi _ (by omega)]; exact hr.wid x x0 x1
      · rw [hi _ (by omega)]; exact hr.set x x0 x1
    · rintro _ rfl
      refine ⟨by omega, ?_⟩
      rintro _ rfl
      exact hK (z + 1, zup M3 1 (1 + 4 * (A 0 0 - 1) + z) 0) ⟨by show 0 ≤ z + 1; omega, by show z + 1 ≤ 4; omega, fun a q => (zup_other q).trans (hs3 a q), fun x q => (zup_ne (by omega)).trans (hx3 x q)⟩ (by show (4 - (z + 1)).toNat < (4 - z).toNat; omega)
  · rintro _ rfl
    refine ⟨by omega, ?_⟩
    rintro _ rfl
    refine hK (y + 1, zup M1 1 y (M1 1 (y + 4))) ⟨by show 1 + 4 * s ≤ y + 1; omega, by show y + 1 ≤ 1 + 4 * (A 0 0 - 1); omega, fun a q => (zup_other q).trans (hs a q), fun x => ?_⟩ (by show (1 + 4 * A 0 0 - (y + 1)).toNat < (1 + 4 * A 0 0 - y).toNat; omega)
    show zup M1 1 y (M1 1 (y + 4)) 1 x = (if 1 + 4 * s ≤ x ∧ x < y + 1 then M0 1 (x + 4) else M0 1 x)
    by_cases e : x = y
    · subst e
      rw [zup_at, if_pos (by omega), hxn, if_neg (by omega)]
    · rw [zup_ne e, hxn]
      by_cases e2 : 1 + 4 * s ≤ x ∧ x < y
      · rw [if_pos e2, if_pos (by omega)]
      · rw [if_neg e2, if_neg (by omega)]
theorem takesBar_ok (hr : RV A (M 1)) (hv : Val B A) {bar : Int} {Φ : Int → zM → Prop} (hf : (∀ i, 0 ≤ i → i < A 0 0 → A 2 i ≠ bar) → Φ (-1) M) (k : ∀ s, 0 ≤ s → s < A 0 0 → A 2 s = bar → ∀ M', (∀ a, a ≠ 1 → M' a = M a) → RV (delA (dArr s (A 6 0).toNat A 0).1 s) (M' 1) → Φ (dArr s (A 6 0).toNat A 0).2 M') : jM_takesBar bar M Φ := by
  have ha := hv.a
  unfold jM_takesBar
  refine find_ok hr hv (fun s s0 s1 es => ⟨fun _ => ?_, fun z => by omega⟩) (fun hn => ⟨fun z => absurd rfl z, fun _ => hf hn⟩)
  have k := k s s0 s1 es
  rw [hr.a]
  refine ⟨by omega, ?_⟩
  rintro _ rfl
  refine zwh_run (fun v : Int × Int × zM => ∃ A1, Val B A1 ∧ RV A1 (v.2.2 1) ∧ A1 0 0 = A 0 0 ∧ -1 ≤ v.2.1 ∧ v.2.1 < A1 6 0 ∧ (∀ a, a ≠ 1 → v.2.2 a = M a) ∧ (0 ≤ v.1 ∧ v.1 + A1 6 0 = A 6 0) ∧ offP A1 s (v.2.1 + 1) ∧ dArr s (v.2.1 + 1).toNat A1 v.1 = dArr s (A 6 0).toNat A 0) (fun v => (v.2.1 + 1).toNat) ?_ (0, A 6 0 - 1, M) ⟨A, hv, hr, rfl, (show -1 ≤ A 6 0 - 1 by omega), (show A 6 0 - 1 < A 6 0 by omega), fun _ _ => rfl, ⟨Int.le_refl 0, (show 0 + A 6 0 = A 6 0 by omega)⟩, fun k k0 k1 => by have k0 : A 6 0 - 1 + 1 ≤ k := k0; omega, by show dArr s (A 6 0 - 1 + 1).toNat A 0 = _; rw [show A 6 0 - 1 + 1 = A 6 0 by omega]⟩
  rintro K ⟨c, x, M1⟩ ⟨A1, hv1, hr1, en, x0, x1, hs, hcc, ho, hd⟩ hK
  have hr1 : RV A1 (M1 1) := hr1
  have x0 : -1 ≤ x := x0
  have x1 : x < A1 6 0 := x1
  have hs : ∀ a, a ≠ 1 → M1 a = M a := hs
  have hcc : 0 ≤ c ∧ c + A1 6 0 = A 6 0 := hcc
  have ho : offP A1 s (x + 1) := ho
  have hd : dArr s (x + 1).toNat A1 c = dArr s (A 6 0).toNat A 0 := hd
  have ha1 := hv1.a
  show jM_takesBar_L27 bar K Φ s c x M1
  unfold jM_takesBar_L27
  refine ⟨fun q => ?_, fun q => ?_⟩
  · have ex : x = -1 := by omega
    subst ex
    have hd2 : dArr s (A 6 0).toNat A 0 = (A1, c) := hd.symm
    rw [hd2] at k
    exact takesBarEnd_ok hr1 hv1 s0 (by omega) ho (fun M' hs' hr' => k M' (fun a q => (hs' a q).trans (hs a q)) hr')
  · have nn : ((x.toNat : Nat) : Int) = x := by omega
    have fin : (A1 9 x = s ∨ A1 10 x = s) → jM_takesBar_J52 bar K Φ s c x M1 := by
      intro hp
      unfold jM_takesBar_J52
      refine dropArrowM_ok hr1 hv1 (by omega) x1 (fun M2 hs2 hr2 => ⟨by omega, ?_⟩)
      rintro _ rfl
      refine ⟨by omega, ?_⟩
      rintro _ rfl
      refine hK (c + 1, x + -1, M2) ⟨drpA A1 x, drpA_val hv1 (by omega) x1, hr2, en, by show -1 ≤ x + -1; omega, by show x + -1 < A1 6 0 - 1; omega, fun a q => (hs2 a q).trans (hs a q), ⟨by show 0 ≤ c + 1; omega, by show c + 1 + (A1 6 0 - 1) = A 6 0; omega⟩, by show offP (drpA A1 x) s (x + -1 + 1); rw [show x + -1 + 1 = x by omega]; exact offP_drop ho, ?_⟩ (by show (x + -1 + 1).toNat < (x + 1).toNat; omega)
      show dArr s (x + -1 + 1).toNat (drpA A1 x) (c + 1) = dArr s (A 6 0).toNat A 0
      rw [← hd, show (x + 1).toNat = x.toNat + 1 by omega, dArr_t (by rw [nn]; exact hp), nn, show x + -1 + 1 = x by omega]
    refine from_ok hr1 hv1 (by omega) x1 ⟨fun e => fin (Or.inl e), fun e => to_ok hr1 hv1 (by omega) x1 ⟨fun e2 => ⟨by omega, ?_⟩, fun e2 => fin (Or.inr e2)⟩⟩
    rintro _ rfl
    have hno : ¬ (A1 9 x = s ∨ A1 10 x = s) := fun z => by rcases z with z | z; exact e z; exact e2 z
    refine hK (c, x + -1, M1) ⟨A1, hv1, hr1, en, by show -1 ≤ x + -1; omega, by show x + -1 < A1 6 0; omega, hs, hcc, by show offP A1 s (x + -1 + 1); rw [show x + -1 + 1 = x by omega]; exact offP_stay ho hno, ?_⟩ (by show (x + -1 + 1).toNat < (x + 1).toNat; omega)
    show dArr s (x + -1 + 1).toNat A1 c = dArr s (A 6 0).toNat A 0
    rw [← hd, show (x + 1).toNat = x.toNat + 1 by omega, dArr_f (by rw [nn]; exact hno), show x + -1 + 1 = x by omega]
theorem takeBar_pair {Mx : zM} (hp : PI B Mx Mm) (p : Int) : jB_takeBar p Mx (fun r Mx' => jM_takeBar p Mm (fun r' Mm' => r' = r ∧ PI B Mx' Mm')) := by
  obtain ⟨A, H, h, fl, S, L, T, hV, hX, hM⟩ := hp
  have hv := hV.1
  have ha := hv.a
  unfold jB_takeBar
  refine slotOf_ok hX.1 hv (fun s s0 s1 es => ⟨fun _ => ?_, fun z => absurd s0 z⟩) (fun hn => ⟨fun z => absurd z (by decide), fun _ => ?_⟩)
  · have dk := dArr_ok (s := s) (A 6 0).toNat A 0 hv (by omega) (fun k k0 k1 => by omega)
    have vd := delA_val dk.1 s0 (by rw [dk.2.2.1]; exact s1) dk.2.1
    refine copyFrom_ok hv (Or.inr (by omega)) hX.1 (fun M1 hs hc => dropBar_ok hc hv s0 s1 (fun M3 hs3 hc3 => ?_))
    have hs' : ∀ q, (q < 10 ∨ 20 ≤ q) → M3 q = Mx q := fun q hq => (hs3 q (by omega)).trans (hs q (by omega))
    refine settle_ok hV (hX.same (fun q hq => hs' q (by omega)) (by rw [hs' 73 (by omega)]) (hs' 74 (by omega))) vd hc3 dk.2.2.2 (fun Mx' hX' => ?_)
    unfold jM_takeBar
    refine putAside_ok (fun M2 hs1 ha1 => takesBar_ok (by rw [hs1 1 (by omega)]; exact hM.1) hv (fun hn => absurd es (hn s s0 s1)) (fun s' s0' s1' es' M4 hs4 hr4 => ?_))
    have e : s' = s := hv.uniq s0' s1' s0 s1 (es'.trans es.symm)
    subst e
    exact fin_ok hV hM (fun q q1 q2 q6 => (hs4 q q1).trans (hs1 q q2)) (fun x x0 x1 => by rw [hs4 2 (by omega)]; exact ha1 x x0 x1) hr4 vd dk.2.2.2 hX'
  · unfold jM_takeBar
    exact putAside_ok (fun M2 hs1 ha1 => takesBar_ok (by rw [hs1 1 (by omega)]; exact hM.1) hv (fun _ => bad_ok hV hM (fun q q1 q2 q6 => hs1 q q2) ha1 (by omega) hX) (fun s' s0' s1' es' => absurd es' (hn s' s0' s1')))
end AC
