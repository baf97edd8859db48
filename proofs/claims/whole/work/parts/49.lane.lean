/-! the best lane -/
section AC
variable {A A' S : zA} {H : Int → zA} {h fl L B : Int} {T : Int → Int} {M M2 Mm Mx Mx' : zM} {b : Nat}
def frL (A : zA) (s w : Int) : Prop := noBar A w (A 4 s) (A 4 s + A 5 s) s
noncomputable def uL (A : zA) (s w : Int) : Int := undrA (movA A s w (A 4 s))
noncomputable def blT (A : zA) (s w : Int) (p : Int × Int) : Int × Int := by classical exact if frL A s w ∧ (p.1 = -5 ∨ uL A s w < p.2) then (w, uL A s w) else p
theorem blT_y {s w : Int} {p : Int × Int} (h : frL A s w ∧ (p.1 = -5 ∨ uL A s w < p.2)) : blT A s w p = (w, uL A s w) := by unfold blT; rw [if_pos h]
theorem blT_n {s w : Int} {p : Int × Int} (h : ¬ (frL A s w ∧ (p.1 = -5 ∨ uL A s w < p.2))) : blT A s w p = p := by unfold blT; rw [if_neg h]
noncomputable def blS (A : zA) (s : Int) : Nat → Int × Int
  | 0 => (-5, 0)
  | k + 1 => blT A s k (blS A s k)
noncomputable def blI (A : zA) (s x : Int) : Int × Int := blS A s x.toNat
theorem blI_s {s x : Int} (x0 : 0 ≤ x) : blI A s (x + 1) = blT A s x (blI A s x) := by
  obtain ⟨k, rfl⟩ := Int.eq_ofNat_of_zero_le x0
  rfl
theorem frL_own (hv : Val B A) {s : Int} (s0 : 0 ≤ s) (s1 : s < A 0 0) : frL A s (A 3 s) := by
  intro j j0 j1 hne e z
  have := hv.apart j s j0 j1 s0 s1 hne e
  omega
theorem uL_rng (hv : Val B A) {s w : Int} (s0 : 0 ≤ s) (s1 : s < A 0 0) (w0 : 0 ≤ w ∧ w < 12) (hf : frL A s w) : Val B (movA A s w (A 4 s)) ∧ 0 ≤ uL A s w ∧ uL A s w ≤ 40 := by
  have ds := hv.day s s0 s1
  have v := movA_val hv s0 s1 w0.1 w0.2 ds.1 ds.2.2.2.2 hf
  exact ⟨v, undr_rng v⟩
theorem bl_own (hv : Val B A) {s : Int} (s0 : 0 ≤ s) (s1 : s < A 0 0) : ∀ k : Nat, A 3 s < k → (blS A s k).1 ≠ -5
  | 0, h => by have := hv.lane s s0 s1; omega
  | k + 1, h => by
    show (blT A s k (blS A s k)).1 ≠ -5
    by_cases y : frL A s k ∧ ((blS A s k).1 = -5 ∨ uL A s k < (blS A s k).2)
    · rw [blT_y y]
      show (k : Int) ≠ -5
      omega
    · rw [blT_n y]
      by_cases e : A 3 s = k
      · intro z
        exact y ⟨e ▸ frL_own hv s0 s1, Or.inl z⟩
      · exact bl_own hv s0 s1 k (by omega)
theorem movA_same {s w : Int} : movA A s w (A 4 s) = lfA A (fun j => if j = s then w else A 3 j) (A 4) := by
  have : (fun j => if j = s then A 4 s else A 4 j) = A 4 := by
    funext j
    by_cases e : j = s
    · rw [if_pos e, e]
    · rw [if_neg e]
  unfold movA
  rw [this]
theorem bestLaneM_ok (hr : RV A (M 1)) (hv : Val B A) {s : Int} (s0 : 0 ≤ s) (s1 : s < A 0 0) {p : Int} (es : A 2 s = p) {Φ : Int → zM → Prop} (k : ∀ M', (∀ a, a ≠ 1 → M' a = M a) → RV A (M' 1) → Φ (blI A s 12).1 M') : jM_bestLane p M Φ := by
  have hn := hv.n
  have ds := hv.day s s0 s1
  unfold jM_bestLane
  refine find_ok hr hv (fun s' s0' s1' es' => ⟨fun _ => ?_, fun z => by omega⟩) (fun hno => absurd es (hno s s0 s1))
  have e : s' = s := hv.uniq s0' s1' s0 s1 (es'.trans es.symm)
  subst e
  refine of1_ok hr hv s0 s1 ?_
  refine zwh_run (fun v : Int × Int × Int × zM => 0 ≤ v.2.2.1 ∧ v.2.2.1 ≤ 12 ∧ v.1 = (blI A s' v.2.2.1).1 ∧ (v.1 = -5 → v.2.1 = 1000000) ∧ (v.1 ≠ -5 → v.2.1 = (blI A s' v.2.2.1).2) ∧ (∀ a, a ≠ 1 → v.2.2.2 a = M a) ∧ RV A (v.2.2.2 1)) (fun v => (12 - v.2.2.1).toNat) ?_ (-5, 1000000, 0, M) ⟨Int.le_refl 0, (show (0 : Int) ≤ 12 by decide), rfl, fun _ => rfl, fun z => absurd rfl z, fun _ _ => rfl, hr⟩
  rintro K ⟨g, f, x, M7⟩ ⟨x0, x1, eg, ef5, ef, hs7, hr7⟩ hK
  have x0 : 0 ≤ x := x0
  have x1 : x ≤ 12 := x1
  have eg : g = (blI A s' x).1 := eg
  have ef5 : g = -5 → f = 1000000 := ef5
  have ef : g ≠ -5 → f = (blI A s' x).2 := ef
  have hs7 : ∀ a, a ≠ 1 → M7 a = M a := hs7
  have hr7 : RV A (M7 1) := hr7
  show jM_bestLane_L33 p K Φ s' (A 3 s') g f x M7
  unfold jM_bestLane_L33
  have bs := blI_s (A := A) (s := s') x0
  have ee : endA A s' = A 4 s' + A 5 s' := rfl
  refine ⟨fun q => ?_, fun q => of2_ok hr7 hv s0 s1 (end_ok hr7 hv s0 s1 ⟨by omega, within_ok hr7 hv (fun i i0 i1 hi => ⟨fun _ => ⟨by omega, ?_⟩, fun z => by omega⟩) (fun hno => ⟨fun z => absurd rfl z, fun _ => ⟨by omega, by omega, by omega, by omega, by omega, ?_⟩⟩)⟩)⟩
  · have ex : x = 12 := by omega
    subst ex
    rw [eg]
    exact k M7 hs7 hr7
  · rintro _ rfl
    have nf : ¬ frL A s' x := fun z => z i i0 i1 hi.1 hi.2.2.1 ⟨by have := hi.2.2.2.1; omega, hi.2.2.2.2⟩
    rw [blT_n (fun z => nf z.1)] at bs
    exact hK (g, f, x + 1, M7) ⟨by show 0 ≤ x + 1; omega, by show x + 1 ≤ 12; omega, by show g = (blI A s' (x + 1)).1; rw [bs]; exact eg, ef5, by show g ≠ -5 → f = (blI A s' (x + 1)).2; rw [bs]; exact ef, hs7, hr7⟩ (by show (12 - (x + 1)).toNat < (12 - x).toNat; omega)
  · have hfr : frL A s' x := by
      intro i i0 i1 hne e z
      exact hno i i0 i1 ⟨hne, by omega, e, by omega, z.2⟩
    have ur := uL_rng hv s0 s1 ⟨x0, by omega⟩ hfr
    rintro M17 e17
    have r17 : RV (movA A s' x (A 4 s')) (M17 1) := by
      rw [movA_same]
      refine lfA_RV hr7 hv (fun c hc => by rw [e17, zup_ne (hc s' s0 s1).1]) (fun j j0 j1 => ?_) (fun j j0 j1 => by rw [e17, zup_ne (by omega)]; exact hr7.first j j0 j1)
      by_cases e : j = s'
      · rw [if_pos e, e17, e, zup_at]
      · rw [if_neg e, e17, zup_ne (by omega)]; exact hr7.lane j j0 j1
    refine notDrawn_ok r17 ur.1 ?_
    have fin : ∀ g', (g' = (blI A s' (x + 1)).1 ∧ g' ≠ -5 ∧ min (uL A s' x) f = (blI A s' (x + 1)).2) → jM_bestLane_J99 p K Φ s' (A 3 s') f x (uL A s' x) g' M17 := by
      intro g' hg
      unfold jM_bestLane_J99
      refine least_ok ⟨by omega, by omega, by omega, by omega, by omega, ?_⟩
      rintro M26 e26
      refine ⟨by omega, ?_⟩
      rintro _ rfl
      refine hK (g', min (uL A s' x) f, x + 1, M26) ⟨by show 0 ≤ x + 1; omega, by show x + 1 ≤ 12; omega, hg.1, fun z => absurd z hg.2.1, fun _ => hg.2.2, fun a ha => by show M26 a = M a; rw [e26, zup_other ha, e17, zup_other ha]; exact hs7 a ha, ?_⟩ (by show (12 - (x + 1)).toNat < (12 - x).toNat; omega)
      show RV A (M26 1)
      refine hr7.same hv (fun c c0 c1 => ?_)
      rw [e26]
      by_cases e : c = 1 + 4 * s' + 1
      · rw [e, zup_at]; exact (hr7.lane s' s0 s1).symm
      · rw [zup_ne e, e17, zup_ne e]
    show (f ≤ uL A s' x → jM_bestLane_J99 p K Φ s' (A 3 s') f x (uL A s' x) g M17) ∧ (¬ (f ≤ uL A s' x) → jM_bestLane_J99 p K Φ s' (A 3 s') f x (uL A s' x) x M17)
    refine ⟨fun q2 => fin g ?_, fun q2 => fin x ?_⟩
    · have g5 : g ≠ -5 := fun z => by have := ef5 z; omega
      have := ef g5
      rw [bs, blT_n (fun z => by rcases z.2 with w | w; exact g5 (eg.trans w); omega)]
      exact ⟨eg, g5, by omega⟩
    · rw [bs, blT_y ⟨hfr, by by_cases z : g = -5; exact Or.inl (eg.symm.trans z); have := ef z; exact Or.inr (by omega)⟩]
      exact ⟨rfl, by omega, by show min (uL A s' x) f = uL A s' x; omega⟩
theorem bestLane_pair (hp : PI B Mx Mm) (p : Int) : jB_bestLane p Mx (fun r Mx' => jM_bestLane p Mm (fun r' Mm' => r' = r ∧ PI B Mx' Mm')) := by
  obtain ⟨A, H, h, fl, S, L, T, hV, hX, hM⟩ := hp
  have hv := hV.1
  have hn := hv.n
  unfold jB_bestLane
  refine slotOf_ok hX.1 hv (fun s s0 s1 es => ⟨fun _ => ?_, fun z => absurd s0 z⟩) (fun hno => ⟨fun z => absurd z (by decide), fun _ => ?_⟩)
  · have ds := hv.day s s0 s1
    refine copyFrom_ok hv (Or.inr (by omega)) hX.1 (fun M3 hs3 hc3 => ⟨s0, by omega, ?_⟩)
    rintro _ rfl
    have l3 : M3 2 s = A 3 s := by rw [hs3 2 (by omega)]; exact hX.1.lane s s0 s1
    rw [l3]
    refine zwh_run (fun v : Int × Int × Int × zM => 0 ≤ v.2.2.1 ∧ v.2.2.1 ≤ 12 ∧ ((blI A s v.2.2.1).1 = -5 → v.2.1 = 41) ∧ ((blI A s v.2.2.1).1 ≠ -5 → v.1 = (blI A s v.2.2.1).1 ∧ v.2.1 = (blI A s v.2.2.1).2) ∧ (∀ a, a ≠ 12 → a ≠ 82 → a ≠ 83 → a ≠ 84 → v.2.2.2 a = M3 a) ∧ ∀ j, 0 ≤ j → j < A 0 0 → j ≠ s → v.2.2.2 12 j = A 3 j) (fun v => (12 - v.2.2.1).toNat) ?_ (A 3 s, 41, 0, M3) ⟨Int.le_refl 0, (show (0 : Int) ≤ 12 by decide), fun _ => rfl, fun z => absurd rfl z, fun _ _ _ _ _ => rfl, fun j j0 j1 _ => hc3.lane j j0 j1⟩
    rintro K ⟨g, f, x, M7⟩ ⟨x0, x1, ef5, ef, hs7, h12⟩ hK
    have x0 : 0 ≤ x := x0
    have x1 : x ≤ 12 := x1
    have ef5 : (blI A s x).1 = -5 → f = 41 := ef5
    have ef : (blI A s x).1 ≠ -5 → g = (blI A s x).1 ∧ f = (blI A s x).2 := ef
    have hs7n : ∀ a, a ≠ 12 → a ≠ 82 → a ≠ 83 → a ≠ 84 → M7 a = M3 a := hs7
    have h12n : ∀ j, 0 ≤ j → j < A 0 0 → j ≠ s → M7 12 j = A 3 j := h12
    have sx : ∀ a, (a < 10 ∨ 20 ≤ a) → a < 82 → M7 a = Mx a := fun a q1 q2 => (hs7n a (by omega) (by omega) (by omega) (by omega)).trans (hs3 a (by omega))
    have hc7 : CV A M7 0 := hX.1.same (fun a a0 a1 => sx a (by omega) (by omega))
    have bs := blI_s (A := A) (s := s) x0
    show jB_bestLane_L43 p K (fun r Mx' => jM_bestLane p Mm (fun r' Mm' => r' = r ∧ PI B Mx' Mm')) s g f x M7
    unfold jB_bestLane_L43
    refine ⟨fun q => ?_, fun q => ⟨s0, by omega, s0, by omega, ?_⟩⟩
    · have ex : x = 12 := by omega
      subst ex
      have ls := hv.lane s s0 s1
      have n5 : (blI A s 12).1 ≠ -5 := bl_own hv s0 s1 12 (by omega)
      rw [(ef n5).1]
      exact bestLaneM_ok hM.1 hv s0 s1 es (fun M' hs' hr' => ⟨rfl, _, _, _, _, _, _, _, hV, hX.same (fun a ha => sx a (by omega) (by omega)) (by rw [sx 73 (by omega) (by omega)]) (sx 74 (by omega) (by omega)), hM.at16 (fun a a1 _ => hs' a a1) hr'⟩)
    · rw [show M7 3 s = A 4 s from hc7.first s s0 s1, show M7 4 s = A 5 s from hc7.days s s0 s1]
      refine room_ok hc7 hv (by omega) (fun hfr => ⟨fun z => absurd z (by decide), fun _ => ⟨s0, by omega, ?_⟩⟩) (fun hfr => ⟨fun _ => ⟨by omega, ?_⟩, fun z => absurd rfl z⟩)
      · have hfr : frL A s x := hfr
        have ur := uL_rng hv s0 s1 ⟨x0, by omega⟩ hfr
        rintro M12 e12
        have c12 : CV (movA A s x (A 4 s)) M12 10 := by
          rw [movA_same]
          have c7d : CV A (fun a => if a = 82 ∨ a = 83 ∨ a = 84 then M7 a else M3 a) 10 := hc3.same (fun a a0 a1 => by show (if a = 82 ∨ a = 83 ∨ a = 84 then M7 a else M3 a) = M3 a; rw [if_neg (by omega)])
          refine lfA_CV c7d (fun a a2 a3 => ?_) (fun j j0 j1 => ?_) (fun j j0 j1 => ?_)
          · show M12 a = if a = 82 ∨ a = 83 ∨ a = 84 then M7 a else M3 a
            rw [e12, zup_other a2]
            by_cases e : a = 82 ∨ a = 83 ∨ a = 84
            · rw [if_pos e]
            · rw [if_neg e]; exact hs7n a a2 (by omega) (by omega) (by omega)
          · by_cases e : j = s
            · rw [if_pos e, e12, e, zup_at]
            · rw [if_neg e, e12, zup_ne e]; exact h12n j j0 j1 e
          · rw [e12, zup_other (by omega), hs7n _ (by omega) (by omega) (by omega) (by omega)]; exact hc3.first j j0 j1
        refine draw_ok c12 ur.1 (Or.inr (Or.inl rfl)) (fun M13 hs13 hd13 => ?_)
        rw [hd13.2.2]
        have s13 : ∀ a, a ≠ 12 → a ≠ 82 → a ≠ 83 → a ≠ 84 → M13 a = M3 a := fun a a1 a2 a3 a4 => by rw [hs13 a a2 a3 a4, e12, zup_other a1]; exact hs7n a a1 a2 a3 a4
        have t13 : ∀ j, 0 ≤ j → j < A 0 0 → j ≠ s → M13 12 j = A 3 j := fun j j0 j1 e => by rw [hs13 12 (by omega) (by omega) (by omega), e12, zup_ne e]; exact h12n j j0 j1 e
        show (f ≤ uL A s x → _) ∧ (¬ (f ≤ uL A s x) → _)
        refine ⟨fun q2 => ⟨by omega, ?_⟩, fun q2 => ?_⟩
        · rintro _ rfl
          have n5 : (blI A s x).1 ≠ -5 := fun z => by have := ef5 z; omega
          have e2 := (ef n5).2
          rw [blT_n (fun z => by rcases z.2 with w | w; exact n5 w; omega)] at bs
          exact hK (g, f, x + 1, M13) ⟨by show 0 ≤ x + 1; omega, by show x + 1 ≤ 12; omega, by show (blI A s (x + 1)).1 = -5 → f = 41; rw [bs]; exact ef5, by show (blI A s (x + 1)).1 ≠ -5 → g = (blI A s (x + 1)).1 ∧ f = (blI A s (x + 1)).2; rw [bs]; exact ef, s13, t13⟩ (by show (12 - (x + 1)).toNat < (12 - x).toNat; omega)
        · rintro _ rfl
          refine ⟨by omega, ?_⟩
          rintro _ rfl
          rw [blT_y ⟨hfr, by by_cases z : (blI A s x).1 = -5; exact Or.inl z; have := (ef z).2; exact Or.inr (by omega)⟩] at bs
          exact hK (x, uL A s x, x + 1, M13) ⟨by show 0 ≤ x + 1; omega, by show x + 1 ≤ 12; omega, by show (blI A s (x + 1)).1 = -5 → uL A s x = 41; rw [bs]; intro z; have z : x = -5 := z; omega, by show (blI A s (x + 1)).1 ≠ -5 → x = (blI A s (x + 1)).1 ∧ uL A s x = (blI A s (x + 1)).2; rw [bs]; exact fun _ => ⟨rfl, rfl⟩, s13, t13⟩ (by show (12 - (x + 1)).toNat < (12 - x).toNat; omega)
      · rintro _ rfl
        rw [blT_n (fun z => hfr z.1)] at bs
        exact hK (g, f, x + 1, M7) ⟨by show 0 ≤ x + 1; omega, by show x + 1 ≤ 12; omega, by show (blI A s (x + 1)).1 = -5 → f = 41; rw [bs]; exact ef5, by show (blI A s (x + 1)).1 ≠ -5 → g = (blI A s (x + 1)).1 ∧ f = (blI A s (x + 1)).2; rw [bs]; exact ef, hs7n, h12n⟩ (by show (12 - (x + 1)).toNat < (12 - x).toNat; omega)
  · unfold jM_bestLane
    exact find_ok hM.1 hv (fun s s0 s1 es => absurd es (hno s s0 s1)) (fun _ => ⟨fun z => absurd rfl z, fun _ => ⟨rfl, _, _, _, _, _, _, _, hV, hX, hM⟩⟩)
end AC
