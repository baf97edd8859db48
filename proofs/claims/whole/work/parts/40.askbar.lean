/-! what is asked of a bar -/
section AC
variable {A A' S : zA} {H : Int → zA} {h fl L B : Int} {T : Int → Int} {M M2 Mm Mx : zM} {b : Nat}
theorem stripB1_ok (hc : CV A M 0) (hv : Val B A) {d : Int} (d0 : 0 ≤ d) (d1 : d < gEnd A) {Φ : Int → zM → Prop} (k : ∀ st n t, CutP A st n → 0 ≤ t → t < n → st t ≤ d → d < st (t + 1) → ∀ M', smC M M' → Φ t M') : jB_stripOf d M Φ := by
  unfold jB_stripOf
  exact cut_ok hc hv (Or.inl rfl) (fun M1 hs hC => stripOfK_ok hv rfl hC d0 d1 (fun t t0 t1 a c => k _ _ t hC t0 t1 a c M1 hs))
theorem smC.scr {M' : zM} (hI : IX A H h fl S L T M) (hs : smC M M') : IX A H h fl S L T M' := hI.scr (fun a ha => hs a (by omega) (by omega))
theorem bar_gEnd (hv : Val B A) {s : Int} (s0 : 0 ≤ s) (s1 : s < A 0 0) : endA A s ≤ gEnd A := mxI_ub (f := endA A) s0 s1
theorem barOf_pair (hp : PI B Mx Mm) (p w : Int) : jB_barOf p w Mx (fun r Mx' => jM_barOf p w Mm (fun r' Mm' => r' = r ∧ PI B Mx' Mm')) := by
  obtain ⟨A, H, h, fl, S, L, T, hV, hX, hM⟩ := hp
  have hv := hV.1
  have hn := hv.n
  have stay : ∀ Mx', IX A H h fl S L T Mx' → ∀ r : Int, r = r ∧ PI B Mx' Mm := fun Mx' hX' r => ⟨rfl, _, _, _, _, _, _, _, hV, hX', hM⟩
  unfold jB_barOf
  refine slotOf_ok hX.1 hv (fun s s0 s1 es => ⟨fun _ => ?_, fun z => absurd s0 z⟩) (fun hno => ⟨fun z => absurd z (by decide), fun _ => ?_⟩)
  · have ds := hv.day s s0 s1
    have ge := bar_gEnd hv s0 s1
    have g2 := gEnd_rng hv
    have ee : endA A s = A 4 s + A 5 s := rfl
    have same : ∀ s', 0 ≤ s' → s' < A 0 0 → A 2 s' = p → s' = s := fun s' a c e => hv.uniq a c s0 s1 (e.trans es.symm)
    refine ⟨fun e => ?_, fun e0 => ?_⟩
    · subst e
      refine ⟨s0, by omega, ?_⟩
      rw [show Mx 2 s = A 3 s from hX.1.lane s s0 s1]
      unfold jM_barOf
      refine find_ok hM.1 hv (fun s' s0' s1' es' => ⟨fun _ => ?_, fun z => by omega⟩) (fun hno => absurd es (hno s s0 s1))
      have e : s' = s := same s' s0' s1' es'
      subst e
      refine ⟨fun _ => ?_, fun z => absurd rfl z⟩
      refine ⟨by omega, of1_ok hM.1 hv s0 s1 (stay _ hX _)⟩
    refine ⟨fun e => ?_, fun e1 => ?_⟩
    · subst e
      refine ⟨s0, by omega, ?_⟩
      rw [show Mx 3 s = A 4 s from hX.1.first s s0 s1]
      unfold jM_barOf
      refine find_ok hM.1 hv (fun s' s0' s1' es' => ⟨fun _ => ?_, fun z => by omega⟩) (fun hno => absurd es (hno s s0 s1))
      have e : s' = s := same s' s0' s1' es'
      subst e
      refine ⟨fun z => absurd z (by decide), fun _ => ?_⟩
      refine ⟨fun _ => ?_, fun z => absurd rfl z⟩
      refine ⟨by omega, of2_ok hM.1 hv s0 s1 (stay _ hX _)⟩
    refine ⟨fun e => ?_, fun e2 => ?_⟩
    · subst e
      refine ⟨s0, by omega, ?_⟩
      rw [show Mx 4 s = A 5 s from hX.1.days s s0 s1]
      unfold jM_barOf
      refine find_ok hM.1 hv (fun s' s0' s1' es' => ⟨fun _ => ?_, fun z => by omega⟩) (fun hno => absurd es (hno s s0 s1))
      have e : s' = s := same s' s0' s1' es'
      subst e
      refine ⟨fun z => absurd z (by decide), fun _ => ?_⟩
      refine ⟨fun z => absurd z (by decide), fun _ => ?_⟩
      refine ⟨fun _ => ?_, fun z => absurd rfl z⟩
      refine ⟨by omega, of3_ok hM.1 hv s0 s1 (stay _ hX _)⟩
    refine ⟨fun e => ?_, fun e3 => ?_⟩
    · subst e
      refine endOf_ok hX.1 hv s0 s1 ?_
      unfold jM_barOf
      refine find_ok hM.1 hv (fun s' s0' s1' es' => ⟨fun _ => ?_, fun z => by omega⟩) (fun hno => absurd es (hno s s0 s1))
      have e : s' = s := same s' s0' s1' es'
      subst e
      refine ⟨fun z => absurd z (by decide), fun _ => ?_⟩
      refine ⟨fun z => absurd z (by decide), fun _ => ?_⟩
      refine ⟨fun z => absurd z (by decide), fun _ => ?_⟩
      refine ⟨fun _ => ?_, fun z => absurd rfl z⟩
      exact end_ok hM.1 hv s0 s1 (stay _ hX _)
    refine ⟨fun e => ?_, fun e4 => ?_⟩
    · subst e
      refine ⟨s0, by omega, ?_⟩
      rw [show Mx 3 s = A 4 s from hX.1.first s s0 s1]
      refine place_ok hX.1 hv (by omega) (by omega) ?_
      unfold jM_barOf
      refine find_ok hM.1 hv (fun s' s0' s1' es' => ⟨fun _ => ?_, fun z => by omega⟩) (fun hno => absurd es (hno s s0 s1))
      have e : s' = s := same s' s0' s1' es'
      subst e
      refine ⟨fun z => absurd z (by decide), fun _ => ?_⟩
      refine ⟨fun z => absurd z (by decide), fun _ => ?_⟩
      refine ⟨fun z => absurd z (by decide), fun _ => ?_⟩
      refine ⟨fun z => absurd z (by decide), fun _ => ?_⟩
      refine ⟨fun _ => ?_, fun z => absurd rfl z⟩
      exact of2_ok hM.1 hv s0 s1 (widthOf0_ok hM.1 hv (by omega) (by omega) (stay _ hX _))
    refine ⟨fun e => ?_, fun e5 => ?_⟩
    · subst e
      refine ⟨s0, by omega, endOf_ok hX.1 hv s0 s1 ?_⟩
      rw [show Mx 3 s = A 4 s from hX.1.first s s0 s1]
      refine widthBetween_ok hX.1 hv (by omega) (by omega) (by omega) ?_
      unfold jM_barOf
      refine find_ok hM.1 hv (fun s' s0' s1' es' => ⟨fun _ => ?_, fun z => by omega⟩) (fun hno => absurd es (hno s s0 s1))
      have e : s' = s := same s' s0' s1' es'
      subst e
      refine ⟨fun z => absurd z (by decide), fun _ => ?_⟩
      refine ⟨fun z => absurd z (by decide), fun _ => ?_⟩
      refine ⟨fun z => absurd z (by decide), fun _ => ?_⟩
      refine ⟨fun z => absurd z (by decide), fun _ => ?_⟩
      refine ⟨fun z => absurd z (by decide), fun _ => ?_⟩
      refine ⟨fun _ => ?_, fun z => absurd rfl z⟩
      exact of2_ok hM.1 hv s0 s1 (end_ok hM.1 hv s0 s1 (widthOf_ok hM.1 hv (by omega) (by omega) (by omega) (stay _ hX _)))
    refine ⟨fun e => ?_, fun e6 => ?_⟩
    · subst e
      refine latestOf_ok hX.1 hv s0 s1 (fun D hD M' hs => ⟨s0, by omega, ?_⟩)
      have d := hD.1 s s0 s1
      rw [show M' 3 s = A 4 s by rw [hs 3 (by omega)]; exact hX.1.first s s0 s1]
      refine ⟨by omega, ?_⟩
      unfold jM_barOf
      refine find_ok hM.1 hv (fun s' s0' s1' es' => ⟨fun _ => ?_, fun z => by omega⟩) (fun hno => absurd es (hno s s0 s1))
      have e : s' = s := same s' s0' s1' es'
      subst e
      refine ⟨fun z => absurd z (by decide), fun _ => ?_⟩
      refine ⟨fun z => absurd z (by decide), fun _ => ?_⟩
      refine ⟨fun z => absurd z (by decide), fun _ => ?_⟩
      refine ⟨fun z => absurd z (by decide), fun _ => ?_⟩
      refine ⟨fun z => absurd z (by decide), fun _ => ?_⟩
      refine ⟨fun z => absurd z (by decide), fun _ => ?_⟩
      refine ⟨fun _ => ?_, fun z => absurd rfl z⟩
      exact slackM_ok hM.1 hv s0 s1 hD (fun M1 hs1 => ⟨rfl, _, _, _, _, _, _, _, hV, hX.scr (fun a ha => hs a (by omega)), hM.scr (fun a a6 _ => hs1 a (by omega) (by omega))⟩)
    refine ⟨fun e => ?_, fun e7 => ?_⟩
    · subst e
      refine arrowsFrom_ok hX.1 hv ?_
      unfold jM_barOf
      refine find_ok hM.1 hv (fun s' s0' s1' es' => ⟨fun _ => ?_, fun z => by omega⟩) (fun hno => absurd es (hno s s0 s1))
      have e : s' = s := same s' s0' s1' es'
      subst e
      refine ⟨fun z => absurd z (by decide), fun _ => ?_⟩
      refine ⟨fun z => absurd z (by decide), fun _ => ?_⟩
      refine ⟨fun z => absurd z (by decide), fun _ => ?_⟩
      refine ⟨fun z => absurd z (by decide), fun _ => ?_⟩
      refine ⟨fun z => absurd z (by decide), fun _ => ?_⟩
      refine ⟨fun z => absurd z (by decide), fun _ => ?_⟩
      refine ⟨fun z => absurd z (by decide), fun _ => ?_⟩
      refine ⟨fun _ => ?_, fun z => absurd rfl z⟩
      refine ⟨by omega, ?_⟩
      exact arrowsAt1_ok hM.1 hv s0 s1 (stay _ hX _)
    refine ⟨fun e => ?_, fun e8 => ?_⟩
    · subst e
      refine arrowsTo_ok hX.1 hv ?_
      unfold jM_barOf
      refine find_ok hM.1 hv (fun s' s0' s1' es' => ⟨fun _ => ?_, fun z => by omega⟩) (fun hno => absurd es (hno s s0 s1))
      have e : s' = s := same s' s0' s1' es'
      subst e
      refine ⟨fun z => absurd z (by decide), fun _ => ?_⟩
      refine ⟨fun z => absurd z (by decide), fun _ => ?_⟩
      refine ⟨fun z => absurd z (by decide), fun _ => ?_⟩
      refine ⟨fun z => absurd z (by decide), fun _ => ?_⟩
      refine ⟨fun z => absurd z (by decide), fun _ => ?_⟩
      refine ⟨fun z => absurd z (by decide), fun _ => ?_⟩
      refine ⟨fun z => absurd z (by decide), fun _ => ?_⟩
      refine ⟨fun z => absurd z (by decide), fun _ => ?_⟩
      refine ⟨fun _ => ?_, fun z => absurd rfl z⟩
      refine ⟨by omega, ?_⟩
      exact arrowsAt2_ok hM.1 hv s0 s1 (stay _ hX _)
    refine ⟨fun e => ?_, fun e9 => ?_⟩
    · subst e
      refine ⟨s0, by omega, ?_⟩
      rw [show Mx 3 s = A 4 s from hX.1.first s s0 s1]
      refine stripB1_ok hX.1 hv (by omega) (by omega) (fun st n t hC t0 t1 ta tb M' hs => ?_)
      unfold jM_barOf
      refine find_ok hM.1 hv (fun s' s0' s1' es' => ⟨fun _ => ?_, fun z => by omega⟩) (fun hno => absurd es (hno s s0 s1))
      have e : s' = s := same s' s0' s1' es'
      subst e
      refine ⟨fun z => absurd z (by decide), fun _ => ?_⟩
      refine ⟨fun z => absurd z (by decide), fun _ => ?_⟩
      refine ⟨fun z => absurd z (by decide), fun _ => ?_⟩
      refine ⟨fun z => absurd z (by decide), fun _ => ?_⟩
      refine ⟨fun z => absurd z (by decide), fun _ => ?_⟩
      refine ⟨fun z => absurd z (by decide), fun _ => ?_⟩
      refine ⟨fun z => absurd z (by decide), fun _ => ?_⟩
      refine ⟨fun z => absurd z (by decide), fun _ => ?_⟩
      refine ⟨fun z => absurd z (by decide), fun _ => ?_⟩
      refine ⟨fun _ => ?_, fun z => absurd rfl z⟩
      exact of2_ok hM.1 hv s0 s1 (stripOfM_ok hM.1 hv hC t0 t1 ta tb (stay _ (smC.scr hX hs) _))
    refine ⟨fun e => ?_, fun e10 => ?_⟩
    · subst e
      refine endOf_ok hX.1 hv s0 s1 ⟨by omega, stripB1_ok hX.1 hv (by omega) (by omega) (fun st n t hC t0 t1 ta tb M' hs => ?_)⟩
      have c1 : CV A M' 0 := hs.cv (Or.inl rfl) hX.1
      refine ⟨s0, by omega, ?_⟩
      rw [show M' 3 s = A 4 s from c1.first s s0 s1]
      refine stripB1_ok c1 hv (by omega) (by omega) (fun st2 n2 t2 hC2 t20 t21 t2a t2b M2' hs2 => ?_)
      have r1 := cut_rng hv hC hC.1 (Int.le_refl _)
      have r2 := cut_rng hv hC2 hC2.1 (Int.le_refl _)
      refine ⟨by omega, by omega, ?_⟩
      unfold jM_barOf
      refine find_ok hM.1 hv (fun s' s0' s1' es' => ⟨fun _ => ?_, fun z => by omega⟩) (fun hno => absurd es (hno s s0 s1))
      have e : s' = s := same s' s0' s1' es'
      subst e
      refine ⟨fun z => absurd z (by decide), fun _ => ?_⟩
      refine ⟨fun z => absurd z (by decide), fun _ => ?_⟩
      refine ⟨fun z => absurd z (by decide), fun _ => ?_⟩
      refine ⟨fun z => absurd z (by decide), fun _ => ?_⟩
      refine ⟨fun z => absurd z (by decide), fun _ => ?_⟩
      refine ⟨fun z => absurd z (by decide), fun _ => ?_⟩
      refine ⟨fun z => absurd z (by decide), fun _ => ?_⟩
      refine ⟨fun z => absurd z (by decide), fun _ => ?_⟩
      refine ⟨fun z => absurd z (by decide), fun _ => ?_⟩
      refine ⟨fun z => absurd z (by decide), fun _ => ?_⟩
      refine ⟨fun _ => ?_, fun z => absurd rfl z⟩
      refine end_ok hM.1 hv s0 s1 ⟨by omega, stripOfM_ok hM.1 hv hC t0 t1 ta tb (of2_ok hM.1 hv s0 s1 (stripOfM_ok hM.1 hv hC2 t20 t21 t2a t2b ⟨by omega, by omega, stay _ (smC.scr (smC.scr hX hs) hs2) _⟩))⟩
    refine ⟨fun e => ?_, fun e11 => ?_⟩
    · subst e
      refine nextInLane_ok hX.1 hv s0 s1 (fun j j0 j1 hj hmin => ?_) (fun hno => ?_)
      · unfold jM_barOf
        refine find_ok hM.1 hv (fun s' s0' s1' es' => ⟨fun _ => ?_, fun z => by omega⟩) (fun hno => absurd es (hno s s0 s1))
        have e : s' = s := same s' s0' s1' es'
        subst e
        refine ⟨fun z => absurd z (by decide), fun _ => ?_⟩
        refine ⟨fun z => absurd z (by decide), fun _ => ?_⟩
        refine ⟨fun z => absurd z (by decide), fun _ => ?_⟩
        refine ⟨fun z => absurd z (by decide), fun _ => ?_⟩
        refine ⟨fun z => absurd z (by decide), fun _ => ?_⟩
        refine ⟨fun z => absurd z (by decide), fun _ => ?_⟩
        refine ⟨fun z => absurd z (by decide), fun _ => ?_⟩
        refine ⟨fun z => absurd z (by decide), fun _ => ?_⟩
        refine ⟨fun z => absurd z (by decide), fun _ => ?_⟩
        refine ⟨fun z => absurd z (by decide), fun _ => ?_⟩
        refine ⟨fun z => absurd z (by decide), fun _ => ?_⟩
        refine ⟨fun _ => ?_, fun z => absurd rfl z⟩
        refine behind_ok hM.1 hv s0 s1 (fun j' j0' j1' hj' hmin' => ?_) (fun hno => absurd hj (hno j j0 j1))
        have eq : j' = j := by
          by_cases q : j' = j
          · exact q
          · have l1 := hmin j' j0' j1' hj'
            have l2 := hmin' j j0 j1 hj
            have ap := hv.apart j' j j0' j1' j0 j1 q (hj'.1.trans hj.1.symm)
            have d1 := hv.day j j0 j1
            have d2 := hv.day j' j0' j1'
            omega
        subst eq
        exact stay _ hX _
      · unfold jM_barOf
        refine find_ok hM.1 hv (fun s' s0' s1' es' => ⟨fun _ => ?_, fun z => by omega⟩) (fun hno => absurd es (hno s s0 s1))
        have e : s' = s := same s' s0' s1' es'
        subst e
        refine ⟨fun z => absurd z (by decide), fun _ => ?_⟩
        refine ⟨fun z => absurd z (by decide), fun _ => ?_⟩
        refine ⟨fun z => absurd z (by decide), fun _ => ?_⟩
        refine ⟨fun z => absurd z (by decide), fun _ => ?_⟩
        refine ⟨fun z => absurd z (by decide), fun _ => ?_⟩
        refine ⟨fun z => absurd z (by decide), fun _ => ?_⟩
        refine ⟨fun z => absurd z (by decide), fun _ => ?_⟩
        refine ⟨fun z => absurd z (by decide), fun _ => ?_⟩
        refine ⟨fun z => absurd z (by decide), fun _ => ?_⟩
        refine ⟨fun z => absurd z (by decide), fun _ => ?_⟩
        refine ⟨fun z => absurd z (by decide), fun _ => ?_⟩
        refine ⟨fun _ => ?_, fun z => absurd rfl z⟩
        exact behind_ok hM.1 hv s0 s1 (fun j' j0' j1' hj' hmin' => absurd hj' (hno j' j0' j1')) (fun _ => stay _ hX _)
    unfold jM_barOf
    refine find_ok hM.1 hv (fun s' s0' s1' es' => ⟨fun _ => ?_, fun z => by omega⟩) (fun hno => absurd es (hno s s0 s1))
    have e : s' = s := same s' s0' s1' es'
    subst e
    exact ⟨fun z => absurd z e0, fun _ => ⟨fun z => absurd z e1, fun _ => ⟨fun z => absurd z e2, fun _ => ⟨fun z => absurd z e3, fun _ => ⟨fun z => absurd z e4, fun _ => ⟨fun z => absurd z e5, fun _ => ⟨fun z => absurd z e6, fun _ => ⟨fun z => absurd z e7, fun _ => ⟨fun z => absurd z e8, fun _ => ⟨fun z => absurd z e9, fun _ => ⟨fun z => absurd z e10, fun _ => ⟨fun z => absurd z e11, fun _ => stay _ hX _⟩⟩⟩⟩⟩⟩⟩⟩⟩⟩⟩⟩
  · unfold jM_barOf
    exact find_ok hM.1 hv (fun s s0 s1 es => absurd es (hno s s0 s1)) (fun _ => ⟨fun z => absurd rfl z, fun _ => stay _ hX _⟩)
end AC
