/-! lanes swapped; slips; what is asked of the rows; undoing, keeping, restoring -/
section AC
variable {A A' S : zA} {H : Int → zA} {h fl L B : Int} {T : Int → Int} {M M2 Mm Mx' : zM} {b : Nat}
def swI (p q l : Int) : Int := if l = p then q else if l = q then p else l
def swpA (A : zA) (p q : Int) : zA := lfA A (fun j => swI p q (A 3 j)) (A 4)
theorem swI_inj {p q l m : Int} (e : swI p q l = swI p q m) : l = m := by
  unfold swI at e
  by_cases e1 : l = p <;> by_cases e2 : m = p <;> by_cases e3 : l = q <;> by_cases e4 : m = q <;> simp only [e1, e2, e3, e4, if_true, if_false] at e <;> omega
theorem swI_rng {p q l : Int} (p0 : 0 ≤ p ∧ p < 12) (q0 : 0 ≤ q ∧ q < 12) (l0 : 0 ≤ l ∧ l < 12) : 0 ≤ swI p q l ∧ swI p q l < 12 := by
  unfold swI
  by_cases e1 : l = p
  · rw [if_pos e1]; omega
  · rw [if_neg e1]
    by_cases e2 : l = q
    · rw [if_pos e2]; omega
    · rw [if_neg e2]; omega
theorem swpA_val (hv : Val B A) {p q : Int} (p0 : 0 ≤ p ∧ p < 12) (q0 : 0 ≤ q ∧ q < 12) : Val B (swpA A p q) :=
  lfA_val hv (fun j j0 j1 => swI_rng p0 q0 (hv.lane j j0 j1)) (fun j j0 j1 => by have := hv.day j j0 j1; omega) (fun i j i0 i1 j0 j1 ij e => hv.apart i j i0 i1 j0 j1 ij (swI_inj e))
theorem exchangeLanes_ok (hc : CV A M b) (hv : Val B A) {p q : Int} {Φ : zM → Prop} (k : ∀ M', (∀ a, a ≠ b + 2 → M' a = M a) → CV (swpA A p q) M' b → Φ M') : jC_exchangeLanes b p q M Φ := by
  have hn := hv.n
  unfold jC_exchangeLanes
  refine zwh_run (fun v : Int × zM => 0 ≤ v.1 ∧ v.1 ≤ A 0 0 ∧ (∀ a, a ≠ b + 2 → v.2 a = M a) ∧ ∀ j, 0 ≤ j → j < A 0 0 → v.2 (b + 2) j = if j < v.1 then swI p q (A 3 j) else A 3 j) (fun v => (A 0 0 - v.1).toNat) ?_ (0, M) ⟨Int.le_refl 0, hn.1, fun _ _ => rfl, fun j j0 j1 => by rw [if_neg (by show ¬ j < 0; omega)]; exact hc.lane j j0 j1⟩
  rintro K ⟨x, M1⟩ ⟨x0, x1, hs, h2⟩ hK
  have x0 : 0 ≤ x := x0
  have x1 : x ≤ A 0 0 := x1
  have hs : ∀ a, a ≠ b + 2 → M1 a = M a := hs
  have h2n : ∀ j, 0 ≤ j → j < A 0 0 → M1 (b + 2) j = if j < x then swI p q (A 3 j) else A 3 j := h2
  show jC_exchangeLanes_L2 b p q K Φ x M1
  unfold jC_exchangeLanes_L2
  rw [hs b (by omega), hc.n]
  refine ⟨fun z => ?_, fun z => ⟨x0, by omega, ?_⟩⟩
  · have ex : x = A 0 0 := by omega
    refine k M1 hs (lfA_CV hc (fun a a2 a3 => hs a a2) (fun j j0 j1 => by rw [h2n j j0 j1, if_pos (by omega)]) (fun j j0 j1 => by rw [hs _ (by omega)]; exact hc.first j j0 j1))
  · have hx := h2n x x0 (by omega)
    rw [if_neg (by omega)] at hx
    rw [hx]
    have step : ∀ M2, (∀ a, a ≠ b + 2 → M2 a = M1 a) → M2 (b + 2) x = swI p q (A 3 x) → (∀ j, j ≠ x → M2 (b + 2) j = M1 (b + 2) j) → K (x + 1, M2) := by
      intro M2 g1 g2 g3
      refine hK (x + 1, M2) ⟨by show 0 ≤ x + 1; omega, by show x + 1 ≤ A 0 0; omega, fun a ha => (g1 a ha).trans (hs a ha), fun j j0 j1 => ?_⟩ (by show (A 0 0 - (x + 1)).toNat < (A 0 0 - x).toNat; omega)
      show M2 (b + 2) j = if j < x + 1 then swI p q (A 3 j) else A 3 j
      by_cases e : j = x
      · rw [e, if_pos (by omega)]; exact g2
      · rw [g3 j e, h2n j j0 j1]
        by_cases e2 : j < x
        · rw [if_pos e2, if_pos (by omega)]
        · rw [if_neg e2, if_neg (by omega)]
    refine ⟨fun e1 => ⟨x0, by omega, fun e2 => ⟨by omega, ?_⟩, fun e2 => ⟨x0, by omega, ?_⟩⟩, fun e1 => ⟨x0, by omega, ?_⟩⟩
    · rintro _ rfl
      exact step M1 (fun _ _ => rfl) (by unfold swI; rw [if_neg e1, if_neg e2]; exact hx) (fun _ _ => rfl)
    · rintro M5 e5
      refine ⟨by omega, ?_⟩
      rintro _ rfl
      exact step M5 (fun a ha => by rw [e5, zup_other ha]) (by unfold swI; rw [if_neg e1, if_pos e2, e5, zup_at]) (fun j hj => by rw [e5, zup_ne hj])
    · rintro M5 e5
      refine ⟨by omega, ?_⟩
      rintro _ rfl
      exact step M5 (fun a ha => by rw [e5, zup_other ha]) (by unfold swI; rw [if_pos e1, e5, zup_at]) (fun j hj => by rw [e5, zup_ne hj])
theorem swapLanes_ok (hr : RV A (M 1)) (hv : Val B A) {p q : Int} {Φ : zM → Prop} (k : ∀ M', (∀ a, a ≠ 1 → M' a = M a) → RV (swpA A p q) (M' 1) → Φ M') : jM_swapLanes p q M Φ := by
  have hn := hv.n
  unfold jM_swapLanes
  refine zwh_run (fun v : Int × zM => 0 ≤ v.1 ∧ v.1 ≤ A 0 0 ∧ (∀ a, a ≠ 1 → v.2 a = M a) ∧ (∀ c, (∀ j, 0 ≤ j → j < A 0 0 → c ≠ 1 + 4 * j + 1) → v.2 1 c = M 1 c) ∧ ∀ j, 0 ≤ j → j < A 0 0 → v.2 1 (1 + 4 * j + 1) = if j < v.1 then swI p q (A 3 j) else A 3 j) (fun v => (A 0 0 - v.1).toNat) ?_ (0, M) ⟨Int.le_refl 0, hn.1, fun _ _ => rfl, fun _ _ => rfl, fun j j0 j1 => by rw [if_neg (by show ¬ j < 0; omega)]; exact hr.lane j j0 j1⟩
  rintro K ⟨x, M1⟩ ⟨x0, x1, hs, ho, h2⟩ hK
  have x0 : 0 ≤ x := x0
  have x1 : x ≤ A 0 0 := x1
  have hs : ∀ a, a ≠ 1 → M1 a = M a := hs
  have hon : ∀ c, (∀ j, 0 ≤ j → j < A 0 0 → c ≠ 1 + 4 * j + 1) → M1 1 c = M 1 c := ho
  have h2n : ∀ j, 0 ≤ j → j < A 0 0 → M1 1 (1 + 4 * j + 1) = if j < x then swI p q (A 3 j) else A 3 j := h2
  show jM_swapLanes_L2 p q K Φ x M1
  unfold jM_swapLanes_L2
  rw [hon 0 (fun j j0 j1 => by omega), hr.n]
  refine ⟨fun z => ?_, fun z => of_raw x0 (by omega) (by omega) (by omega) ?_⟩
  · have ex : x = A 0 0 := by omega
    exact k M1 hs (lfA_RV hr hv (fun c hc => hon c (fun j j0 j1 => (hc j j0 j1).1)) (fun j j0 j1 => by rw [h2n j j0 j1, if_pos (by omega)]) (fun j j0 j1 => by rw [hon _ (fun i i0 i1 => by omega)]; exact hr.first j j0 j1))
  · have hx := h2n x x0 (by omega)
    rw [if_neg (by omega)] at hx
    rw [hx]
    have step : ∀ s2, s2 = swI p q (A 3 x) → jM_swapLanes_J53 p q K Φ x (1 + 4 * x + 1) s2 M1 := by
      intro s2 g2
      unfold jM_swapLanes_J53
      refine ⟨by omega, by omega, ?_⟩
      rintro _ rfl
      refine ⟨by omega, ?_⟩
      rintro _ rfl
      refine hK (x + 1, zup M1 1 (1 + 4 * x + 1) s2) ⟨by show 0 ≤ x + 1; omega, by show x + 1 ≤ A 0 0; omega, fun a ha => (zup_other ha).trans (hs a ha), fun c hc => (zup_ne (hc x x0 (by omega))).trans (hon c hc), fun j j0 j1 => ?_⟩ (by show (A 0 0 - (x + 1)).toNat < (A 0 0 - x).toNat; omega)
      show zup M1 1 (1 + 4 * x + 1) s2 1 (1 + 4 * j + 1) = if j < x + 1 then swI p q (A 3 j) else A 3 j
      by_cases e : j = x
      · rw [e, if_pos (by omega), zup_at]; exact g2
      · rw [zup_ne (by omega), h2n j j0 j1]
        by_cases e2 : j < x
        · rw [if_pos e2, if_pos (by omega)]
        · rw [if_neg e2, if_neg (by omega)]
    exact ⟨by omega, by omega, by omega, fun e1 => ⟨fun e2 => step _ (by unfold swI; rw [if_neg e1, if_neg e2]), fun e2 => step _ (by unfold swI; rw [if_neg e1, if_pos e2])⟩, fun e1 => step _ (by unfold swI; rw [if_pos e1])⟩
theorem swap_pair {Mx : zM} (hp : PI B Mx Mm) (p q : Int) : jB_swap p q Mx (fun r Mx' => jM_swap p q Mm (fun r' Mm' => r' = r ∧ PI B Mx' Mm')) := by
  obtain ⟨A, H, h, fl, S, L, T, hV, hX, hM⟩ := hp
  have hv := hV.1
  have ref : ∀ (Φ : Int → zM → Prop) (M1 : zM), RV A (M1 1) → (¬ ((0 ≤ p ∧ p < 12) ∧ (0 ≤ q ∧ q < 12)) → Φ (-1) M1) → (((0 ≤ p ∧ p < 12) ∧ (0 ≤ q ∧ q < 12)) → (p = q ∨ ¬ (lanedBy A p ∨ lanedBy A q)) → Φ (-5) M1) → (((0 ≤ p ∧ p < 12) ∧ (0 ≤ q ∧ q < 12)) → ¬ p = q → (lanedBy A p ∨ lanedBy A q) → ∀ M4, (∀ a, a ≠ 1 → M4 a = M1 a) → RV (swpA A p q) (M4 1) → Φ (undrA (swpA A p q)) M4) → jM_swaps p q M1 Φ := by
    intro Φ M1 hr b1 b5 ok
    unfold jM_swaps
    refine isLaneM_ok (fun p0 p1 => ⟨fun z => absurd z (by decide), fun _ => isLaneM_ok (fun q0 q1 => ⟨fun _ => ⟨fun e => b5 ⟨⟨p0, p1⟩, ⟨q0, q1⟩⟩ (Or.inl e), fun e => ?_⟩, fun z => absurd z (by decide)⟩) (fun z => ⟨fun y => absurd rfl y, fun _ => b1 (fun y => z y.2)⟩)⟩) (fun z => ⟨fun _ => b1 (fun y => z y.1), fun y => absurd rfl y⟩)
    have go : (lanedBy A p ∨ lanedBy A q) → jM_swaps_J40 p q Φ M1 := fun hl => by
      unfold jM_swaps_J40
      exact swapLanes_ok hr hv (fun M4 hs4 hr4 => notDrawn_ok hr4 (swpA_val hv ⟨p0, p1⟩ ⟨q0, q1⟩) (ok ⟨⟨p0, p1⟩, ⟨q0, q1⟩⟩ e hl M4 hs4 hr4))
    exact hasBarsM_ok hr hv (fun hl => ⟨fun _ => go (Or.inl hl), fun z => absurd z (by decide)⟩) (fun hl => ⟨fun z => absurd rfl z, fun _ => hasBarsM_ok hr hv (fun hl2 => ⟨fun _ => go (Or.inr hl2), fun z => absurd z (by decide)⟩) (fun hl2 => ⟨fun z => absurd rfl z, fun _ => b5 ⟨⟨p0, p1⟩, ⟨q0, q1⟩⟩ (Or.inr (fun z => by rcases z with z | z; exact hl z; exact hl2 z))⟩)⟩)
  have back : ∀ (r : Int), r < 0 → (¬ ((0 ≤ p ∧ p < 12) ∧ (0 ≤ q ∧ q < 12)) → r = -1) → (((0 ≤ p ∧ p < 12) ∧ (0 ≤ q ∧ q < 12)) → r = -5 ∧ (p = q ∨ ¬ (lanedBy A p ∨ lanedBy A q))) → jM_swap p q Mm (fun r' Mm' => r' = r ∧ PI B Mx Mm') := by
    intro r r0 c1 c5
    unfold jM_swap
    refine putAside_ok (fun M1 hs1 ha1 => ?_)
    have fb : ∀ r', r = r' → jM_act r' M1 (fun r' Mm' => r' = r ∧ PI B Mx Mm') := fun r' e => by
      subst e; exact bad_ok hV hM (fun q q1 q2 q6 => hs1 q q2) ha1 r0 hX
    exact ref _ M1 (by rw [hs1 1 (by omega)]; exact hM.1) (fun z => fb _ (c1 z)) (fun z _ => fb _ (c5 z).1) (fun z z2 z3 => by rcases (c5 z).2 with w | w; exact absurd w z2; exact absurd z3 w)
  unfold jB_swap
  refine isLane_ok (fun p0 p1 => ⟨fun z => absurd z (by decide), fun _ => isLane_ok (fun q0 q1 => ⟨fun _ => ⟨fun e => back (-5) (by omega) (fun z => absurd ⟨⟨p0, p1⟩, ⟨q0, q1⟩⟩ z) (fun _ => ⟨rfl, Or.inl e⟩), fun e => ?_⟩, fun z => absurd z (by decide)⟩) (fun z => ⟨fun y => absurd rfl y, fun _ => back (-1) (by omega) (fun _ => rfl) (fun y => absurd y.2 z)⟩)⟩) (fun z => ⟨fun _ => back (-1) (by omega) (fun _ => rfl) (fun y => absurd y.1 z), fun y => absurd rfl y⟩)
  have pq : (0 ≤ p ∧ p < 12) ∧ (0 ≤ q ∧ q < 12) := ⟨⟨p0, p1⟩, ⟨q0, q1⟩⟩
  have go : (lanedBy A p ∨ lanedBy A q) → jB_swap_J46 p q (fun r Mx' => jM_swap p q Mm (fun r' Mm' => r' = r ∧ PI B Mx' Mm')) Mx := by
    intro hl
    unfold jB_swap_J46
    refine copyFrom_ok hv (Or.inr (by omega)) hX.1 (fun M7 hs hc => exchangeLanes_ok hc hv (fun M8 hs8 hc8 => ?_))
    have vm := swpA_val hv pq.1 pq.2
    refine draw_ok hc8 vm (Or.inr (Or.inl rfl)) (fun M18 hs18 hd18 => ?_)
    have hs' : ∀ a, (a < 10 ∨ 20 ≤ a) → a < 82 → M18 a = Mx a := fun a q1 q2 => by rw [hs18 a (by omega) (by omega) (by omega), hs8 a (by omega)]; exact hs a (by omega)
    rw [hd18.2.2]
    have ur := undr_rng vm
    refine settle_ok hV (hX.same (fun a ha => hs' a (by omega) (by omega)) (by rw [hs' 73 (by omega) (by omega)]) (hs' 74 (by omega) (by omega))) vm (hs18.cv (Or.inr (Or.inl rfl)) hc8) ur.1 (fun Mx' hX' => ?_)
    unfold jM_swap
    refine putAside_ok (fun M2 hs1 ha1 => ref _ M2 (by rw [hs1 1 (by omega)]; exact hM.1) (fun z => absurd pq z) (fun _ z => by rcases z with z | z; exact absurd z e; exact absurd hl z) (fun _ _ _ M4 hs4 hr4 => ?_))
    exact fin_ok hV hM (fun q q1 q2 q6 => (hs4 q q1).trans (hs1 q q2)) (fun x x0 x1 => by rw [hs4 2 (by omega)]; exact ha1 x x0 x1) hr4 vm ur.1 hX'
  exact hasBars_ok hX.1 hv (fun hl => ⟨fun _ => go (Or.inl hl), fun z => absurd z (by decide)⟩) (fun hl => ⟨fun z => absurd rfl z, fun _ => hasBars_ok hX.1 hv (fun hl2 => ⟨fun _ => go (Or.inr hl2), fun z => absurd z (by decide)⟩) (fun hl2 => ⟨fun z => absurd rfl z, fun _ => back (-5) (by omega) (fun z => absurd pq z) (fun _ => ⟨rfl, Or.inr (fun z => by rcases z with z | z; exact hl z; exact hl2 z)⟩)⟩)⟩)
theorem undo_pair {Mx : zM} (hp : PI B Mx Mm) : jB_undo Mx (fun r Mx' => jM_undo Mm (fun r' Mm' => r' = r ∧ PI B Mx' Mm')) := by
  obtain ⟨A, H, h, fl, S, L, T, hV, hX, hM⟩ := hp
  refine undoB_ok hV hX (fun e => undoM_ok hV hM (fun _ => ⟨rfl, _, _, _, _, _, _, _, hV, hX, hM⟩) (fun z => by omega)) (fun h0 Mx' hX' => undoM_ok hV hM (fun z => by omega) (fun _ Mm' hM' => ⟨rfl, _, _, _, _, _, _, _, ?_, hX', hM'⟩))
  exact ⟨hV.2.2.1 (h - 1) (by omega) (by omega), ⟨by omega, by have := hV.2.1; omega⟩, fun i i0 i1 => hV.2.2.1 i i0 (by omega), hV.2.2.2⟩
theorem keep_pair {Mx : zM} (hp : PI B Mx Mm) : jB_keep Mx (fun r Mx' => jM_keep Mm (fun r' Mm' => r' = r ∧ PI B Mx' Mm')) := by
  obtain ⟨A, H, h, fl, S, L, T, hV, hX, hM⟩ := hp
  exact keepB_ok hV hX (fun Mx' hX' => keepM_ok hV hM (fun Mm' hM' => ⟨rfl, _, _, _, _, _, _, _, ⟨hV.1, hV.2.1, hV.2.2.1, Or.inr rfl, fun _ => hV.1, hV.2.2.2.2.2⟩, hX', hM'⟩))
theorem restore_pair {Mx : zM} (hp : PI B Mx Mm) : jB_restore Mx (fun r Mx' => jM_restore Mm (fun r' Mm' => r' = r ∧ PI B Mx' Mm')) := by
  obtain ⟨A, H, h, fl, S, L, T, hV, hX, hM⟩ := hp
  exact restoreB_ok hV hX (fun e => restoreM_ok hV hM (fun _ => ⟨rfl, _, _, _, _, _, _, _, hV, hX, hM⟩) (fun z => absurd e z)) (fun e Mx' hX' => restoreM_ok hV hM (fun z => absurd z e) (fun _ Mm' hM' => ⟨rfl, _, _, _, _, _, _, _, hV.push (hV.2.2.2.2.1 e), hX', hM'⟩))
end AC
