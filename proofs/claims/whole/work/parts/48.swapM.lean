/-! the best swap: the reference; the best lane -/
section AC
variable {A A' S : zA} {H : Int → zA} {h fl L B : Int} {T : Int → Int} {M M2 Mm Mx Mx' : zM} {b : Nat}
theorem lfRV_back {σ : Int → Int} {l : Int → Int} (hr : RV (lfA A l (A 4)) σ) (he : ∀ j, 0 ≤ j → j < A 0 0 → l j = A 3 j) : RV A σ :=
  ⟨hr.n, hr.ever, hr.a, hr.aever, hr.slip, hr.num, fun j j0 j1 => (hr.lane j j0 j1).trans (he j j0 j1), hr.first, hr.days, hr.anum, hr.from, hr.to, hr.wid, hr.set⟩
theorem swB_RV {σ : Int → Int} {p q : Int} (hr : RV (swpA A p q) σ) : RV (swB A p q) σ := by
  by_cases e : lanedBy A p ∨ lanedBy A q
  · rw [swB_y e]; exact hr
  · rw [swB_n e]
    refine lfRV_back hr (fun j j0 j1 => ?_)
    show swI p q (A 3 j) = A 3 j
    unfold swI
    rw [if_neg (fun z => e (Or.inl ⟨j, j0, j1, z⟩)), if_neg (fun z => e (Or.inr ⟨j, j0, j1, z⟩))]
theorem bestSwapM_ok (hr : RV A (M 1)) (hv : Val B A) {w : Int} {Φ : Int → zM → Prop} (kb : ¬ (0 ≤ w ∧ w ≤ 3) → Φ (-2) M) (k5 : 0 ≤ w ∧ w ≤ 3 → (bsI A 144).1 = -5 → ∀ M', (∀ a, a ≠ 1 → a ≠ 6 → M' a = M a) → RV A (M' 1) → Φ (-5) M') (k : 0 ≤ w ∧ w ≤ 3 → 0 ≤ (bsI A 144).1 → ∀ r, ((w = 0 ∧ r = (bsI A 144).1 / 12) ∨ (w = 1 ∧ r = (bsI A 144).1 % 12) ∨ (w = 2 ∧ r = (bsI A 144).2.1) ∨ (w = 3 ∧ r = (bsI A 144).2.2)) → ∀ M', (∀ a, a ≠ 1 → a ≠ 6 → M' a = M a) → RV A (M' 1) → Φ r M') : jM_bestSwap w M Φ := by
  unfold jM_bestSwap
  refine in_ok (fun w0 w1 => ⟨fun _ => ?_, fun z => absurd z (by decide)⟩) (fun z => ⟨fun y => absurd rfl y, fun _ => kb z⟩)
  refine notDrawn_ok hr hv (allPoints_ok hr hv (fun M6 hs6 => ?_))
  refine zwh_run (fun v : Int × Int × Int × Int × zM => 0 ≤ v.2.2.2.1 ∧ v.2.2.2.1 ≤ 144 ∧ v.1 = (bsI A v.2.2.2.1).2.1 ∧ v.2.1 = (bsI A v.2.2.2.1).2.2 ∧ v.2.2.1 = (bsI A v.2.2.2.1).1 ∧ (∀ a, a ≠ 1 → a ≠ 6 → v.2.2.2.2 a = M a) ∧ RV A (v.2.2.2.2 1)) (fun v => (144 - v.2.2.2.1).toNat) ?_ (undrA A, ptsA A, -5, 0, M6) ⟨Int.le_refl 0, (show (0 : Int) ≤ 144 by decide), rfl, rfl, rfl, fun a a1 a6 => hs6 a a6, by show RV A (M6 1); rw [hs6 1 (by omega)]; exact hr⟩
  rintro K ⟨f, p, g, x, M7⟩ ⟨x0, x1, ef, ep, eg, hs7, hr7⟩ hK
  have x0 : 0 ≤ x := x0
  have x1 : x ≤ 144 := x1
  have ef : f = (bsI A x).2.1 := ef
  have ep : p = (bsI A x).2.2 := ep
  have eg : g = (bsI A x).1 := eg
  have hs7 : ∀ a, a ≠ 1 → a ≠ 6 → M7 a = M a := hs7
  have hr7 : RV A (M7 1) := hr7
  show jM_bestSwap_L29 w K Φ f p g x M7
  unfold jM_bestSwap_L29
  refine ⟨fun q => ?_, fun q => ⟨x0, ?_⟩⟩
  · have ex : x = 144 := by omega
    subst ex
    have rg := bs_rng (A := A) 144
    have rg : (bsI A 144).1 = -5 ∨ (0 ≤ (bsI A 144).1 ∧ (bsI A 144).1 < 144) := rg
    refine ⟨fun e => ?_, fun e => k5 ⟨w0, w1⟩ (eg.symm.trans e) M7 hs7 hr7⟩
    have g0 : 0 ≤ (bsI A 144).1 := by omega
    have kk := fun r hh => k ⟨w0, w1⟩ g0 r hh M7 hs7 hr7
    refine ⟨fun e0 => ⟨fun e1 => ⟨fun e2 => kk _ (Or.inr (Or.inr (Or.inr ⟨by omega, ep⟩))), fun e2 => kk _ (Or.inr (Or.inr (Or.inl ⟨e2, ef⟩)))⟩, fun e1 => ⟨by omega, kk _ (Or.inr (Or.inl ⟨e1, by rw [eg]⟩))⟩⟩, fun e0 => ⟨by omega, kk _ (Or.inl ⟨e0, by rw [eg]⟩)⟩⟩
  · rintro _ rfl
    refine ⟨x0, ?_⟩
    rintro _ rfl
    have bs := bsI_s (A := A) x0
    refine ⟨fun e => ⟨by omega, ?_⟩, fun e => ?_⟩
    · rintro _ rfl
      refine hK (f, p, g, x + 1, M7) ⟨by show 0 ≤ x + 1; omega, by show x + 1 ≤ 144; omega, ?_, ?_, ?_, hs7, hr7⟩ (by show (144 - (x + 1)).toNat < (144 - x).toNat; omega)
      · show f = (bsI A (x + 1)).2.1
        rw [bs, bsT_n (fun z => by have := z.1; omega)]; exact ef
      · show p = (bsI A (x + 1)).2.2
        rw [bs, bsT_n (fun z => by have := z.1; omega)]; exact ep
      · show g = (bsI A (x + 1)).1
        rw [bs, bsT_n (fun z => by have := z.1; omega)]; exact eg
    · have d0 : 0 ≤ x / 12 ∧ x / 12 < 12 := by omega
      have m0 : 0 ≤ x % 12 ∧ x % 12 < 12 := by omega
      have lt : x / 12 < x % 12 := by omega
      generalize hpp : x / 12 = pp at *
      generalize hqq : x % 12 = qq at *
      have hu : uS A x = undrA (swB A pp qq) := by unfold uS; rw [hpp, hqq]
      have hpt : pS A x = ptsA (swB A pp qq) := by unfold pS; rw [hpp, hqq]
      refine swapLanes_ok hr7 hv (fun M18 hs18 hr18 => notDrawn_ok (swB_RV hr18) (swB_val hv d0 m0) ?_)
      have vs := swpA_val hv d0 m0
      have fin : ∀ (its : Int) (M3 : zM), (undrA (swB A pp qq) ≤ f → its = ptsA (swB A pp qq)) → (∀ a, a ≠ 1 → a ≠ 6 → M3 a = M a) → RV (swpA A pp qq) (M3 1) → jM_bestSwap_J88 w K Φ f p g x pp qq (undrA (swB A pp qq)) its M3 := by
        intro its M3 hits hs3 hr3
        have done : ∀ (f' p' g' : Int), (f' = (bsI A (x + 1)).2.1 ∧ p' = (bsI A (x + 1)).2.2 ∧ g' = (bsI A (x + 1)).1) → ∀ s0, s0 = f' → jM_bestSwap_J152 w K Φ p' g' x pp qq s0 M3 := by
          intro f' p' g' he s0 es
          subst es
          unfold jM_bestSwap_J152
          refine swapLanes_ok hr3 vs (fun M21 hs21 hr21 => ⟨by omega, ?_⟩)
          rintro _ rfl
          rw [swp_swp] at hr21
          exact hK (s0, p', g', x + 1, M21) ⟨by show 0 ≤ x + 1; omega, by show x + 1 ≤ 144; omega, he.1, he.2.1, he.2.2, fun a a1 a6 => (hs21 a a1).trans (hs3 a a1 a6), hr21⟩ (by show (144 - (x + 1)).toNat < (144 - x).toNat; omega)
        have yes : bet f p (undrA (swB A pp qq)) (ptsA (swB A pp qq)) → jM_bestSwap_J108 w K Φ f p g x pp qq (undrA (swB A pp qq)) its M3 := by
          intro hb
          have hle : undrA (swB A pp qq) ≤ f := by unfold bet at hb; omega
          have e := bsT_y (A := A) (k := x) (s := bsI A x) ⟨by omega, by rw [hu, hpt, ← ef, ← ep]; exact hb⟩
          unfold jM_bestSwap_J108 jM_bestSwap_J113 jM_bestSwap_J127 jM_bestSwap_J140
          refine ⟨fun z => absurd z (by decide), fun _ => ⟨fun z => absurd z (by decide), fun _ => ⟨fun z => absurd z (by decide), fun _ => done (undrA (swB A pp qq)) its x ⟨?_, ?_, ?_⟩ _ rfl⟩⟩⟩
          · rw [bs, e, hu]
          · rw [bs, e, hpt]; exact hits hle
          · rw [bs, e]
        have no : ¬ bet f p (undrA (swB A pp qq)) (ptsA (swB A pp qq)) → jM_bestSwap_J112 w K Φ f p g x pp qq (undrA (swB A pp qq)) its M3 := by
          intro hb
          have e := bsT_n (A := A) (k := x) (s := bsI A x) (fun z => hb (by have := z.2; rw [hu, hpt, ← ef, ← ep] at this; exact this))
          unfold jM_bestSwap_J112 jM_bestSwap_J113 jM_bestSwap_J127 jM_bestSwap_J140
          refine ⟨fun _ => ⟨fun _ => ⟨fun _ => done f p g ⟨?_, ?_, ?_⟩ _ rfl, fun z => absurd rfl z⟩, fun z => absurd rfl z⟩, fun z => absurd rfl z⟩
          · rw [bs, e]; exact ef
          · rw [bs, e]; exact ep
          · rw [bs, e]; exact eg
        unfold jM_bestSwap_J88
        refine ⟨fun q => yes (Or.inl q), fun q => ⟨fun q2 => no (fun z => by unfold bet at z; omega), fun q2 => ⟨fun q3 => no (fun z => by have := hits (by omega); unfold bet at z; omega), fun q3 => yes (Or.inr ⟨q2, by have := hits (by omega); omega⟩)⟩⟩⟩
      have s18 : ∀ a, a ≠ 1 → a ≠ 6 → M18 a = M a := fun a a1 a6 => (hs18 a a1).trans (hs7 a a1 a6)
      refine ⟨fun q => fin _ M18 (fun z => by omega) s18 hr18, fun q => allPoints_ok (swB_RV hr18) (swB_val hv d0 m0) (fun M30 hs30 => fin _ M30 (fun _ => rfl) (fun a a1 a6 => (hs30 a a6).trans (s18 a a1 a6)) ?_)⟩
      rw [hs30 1 (by omega)]
      exact hr18
theorem IM.at16 (hI : IM A H h fl S L T Mm) (hs : ∀ a, a ≠ 1 → a ≠ 6 → M2 a = Mm a) (hr : RV A' (M2 1)) : IM A' H h fl S L T M2 := hI.new (fun q q1 _ q6 => hs q q1 (by omega)) hr
theorem bestSwap_pair (hp : PI B Mx Mm) (w : Int) : jB_bestSwap w Mx (fun r Mx' => jM_bestSwap w Mm (fun r' Mm' => r' = r ∧ PI B Mx' Mm')) := by
  obtain ⟨A, H, h, fl, S, L, T, hV, hX, hM⟩ := hp
  have hv := hV.1
  have bad : ¬ (0 ≤ w ∧ w ≤ 3) → jM_bestSwap w Mm (fun r' Mm' => r' = -2 ∧ PI B Mx Mm') := fun hw => bestSwapM_ok hM.1 hv (fun _ => ⟨rfl, _, _, _, _, _, _, _, hV, hX, hM⟩) (fun z => absurd z hw) (fun z => absurd z hw)
  unfold jB_bestSwap
  refine ⟨fun q => bad (by omega), fun q => ⟨fun q2 => ?_, fun q2 => bad (by omega)⟩⟩
  refine copyFrom_ok hv (Or.inr (by omega)) hX.1 (fun M1 hs1 hc1 => swfind_ok hc1 hv (fun r M3 hs3 hF => ?_))
  have hX3 : IX A H h fl S L T M3 := hX.same (fun a ha => (hs3 a (by omega) (by omega) (by omega) (by omega) (by omega)).trans (hs1 a (by omega))) (by rw [hs3 73 (by omega) (by omega) (by omega) (by omega) (by omega), hs1 73 (by omega)]) ((hs3 74 (by omega) (by omega) (by omega) (by omega) (by omega)).trans (hs1 74 (by omega)))
  refine ⟨fun e => ?_, fun e => ?_⟩
  · have hf : 0 ≤ (bsI A 144).1 ∧ M3 87 0 = (bsI A 144).1 / 12 ∧ M3 87 1 = (bsI A 144).1 % 12 := by
      rcases hF.1 with z | z
      · exact absurd z.1 e
      · exact z.2
    have go : ∀ c, ((w = 0 ∧ c = (bsI A 144).1 / 12) ∨ (w = 1 ∧ c = (bsI A 144).1 % 12) ∨ (w = 2 ∧ c = (bsI A 144).2.1) ∨ (w = 3 ∧ c = (bsI A 144).2.2)) → jM_bestSwap w Mm (fun r' Mm' => r' = c ∧ PI B M3 Mm') := by
      intro c hc
      refine bestSwapM_ok hM.1 hv (fun z => by omega) (fun _ z => by omega) (fun _ _ r hr M' hs' hr' => ⟨by omega, _, _, _, _, _, _, _, hV, hX3, hM.at16 hs' hr'⟩)
    exact ⟨fun e0 => go _ (Or.inl ⟨e0, hf.2.1⟩), fun e0 => ⟨fun e1 => go _ (Or.inr (Or.inl ⟨e1, hf.2.2⟩)), fun e1 => ⟨fun e2 => go _ (Or.inr (Or.inr (Or.inl ⟨e2, hF.2.1⟩))), fun e2 => go _ (Or.inr (Or.inr (Or.inr ⟨by omega, hF.2.2⟩)))⟩⟩⟩
  · have hf : (bsI A 144).1 = -5 := by
      rcases hF.1 with z | z
      · exact z.2
      · omega
    exact bestSwapM_ok hM.1 hv (fun z => by omega) (fun _ _ M' hs' hr' => ⟨rfl, _, _, _, _, _, _, _, hV, hX3, hM.at16 hs' hr'⟩) (fun _ z => by omega)
end AC
