/-! the counts -/
section AC
variable {A A' S : zA} {H : Int → zA} {h fl L B : Int} {T : Int → Int} {M M2 Mm Mx : zM} {b : Nat}
theorem count_pair (hp : PI B Mx Mm) (w : Int) : jB_count w Mx (fun r Mx' => jM_count w Mm (fun r' Mm' => r' = r ∧ PI B Mx' Mm')) := by
  obtain ⟨A, H, h, fl, S, L, T, hV, hX, hM⟩ := hp
  have hv := hV.1
  have hn := hv.n
  have g2 := gEnd_rng hv
  have stay : ∀ Mx', IX A H h fl S L T Mx' → ∀ r : Int, r = r ∧ PI B Mx' Mm := fun Mx' hX' r => ⟨rfl, _, _, _, _, _, _, _, hV, hX', hM⟩
  unfold jB_count
  refine ⟨fun e => ?_, fun e0 => ?_⟩
  · subst e
    unfold jM_count
    refine ⟨fun _ => ?_, fun z => absurd rfl z⟩
    show Mm 1 0 = Mx 0 0 ∧ PI B Mx Mm
    rw [show Mm 1 0 = A 0 0 from hM.1.n, show Mx 0 0 = A 0 0 from hX.1.n]
    exact stay _ hX _
  refine ⟨fun e => ?_, fun e1 => ?_⟩
  · subst e
    unfold jM_count
    refine ⟨fun z => absurd z (by decide), fun _ => ?_⟩
    refine ⟨fun _ => ?_, fun z => absurd rfl z⟩
    show Mm 1 121 = Mx 0 6 ∧ PI B Mx Mm
    rw [show Mm 1 121 = A 6 0 from hM.1.a, show Mx 0 6 = A 6 0 from hX.1.a]
    exact stay _ hX _
  refine ⟨fun e => ?_, fun e2 => ?_⟩
  · subst e
    refine lanesWithBars_ok hX.1 hv ?_
    unfold jM_count
    refine ⟨fun z => absurd z (by decide), fun _ => ?_⟩
    refine ⟨fun z => absurd z (by decide), fun _ => ?_⟩
    refine ⟨fun _ => ?_, fun z => absurd rfl z⟩
    exact lanes_ok hM.1 hv (stay _ hX _)
  refine ⟨fun e => ?_, fun e3 => ?_⟩
  · subst e
    unfold jB_undrawnArrows
    refine draw_ok hX.1 hv (Or.inl rfl) (fun M3 hs3 hd3 => ?_)
    have hX3 := hX.scr (M2 := M3) (fun a ha => hs3 a (by omega) (by omega) (by omega))
    rw [hd3.2.2]
    unfold jM_count
    refine ⟨fun z => absurd z (by decide), fun _ => ?_⟩
    refine ⟨fun z => absurd z (by decide), fun _ => ?_⟩
    refine ⟨fun z => absurd z (by decide), fun _ => ?_⟩
    refine ⟨fun _ => ?_, fun z => absurd rfl z⟩
    exact notDrawn_ok hM.1 hv (stay _ hX3 _)
  refine ⟨fun e => ?_, fun e4 => ?_⟩
  · subst e
    refine lateArrows_ok hX.1 hv ?_
    unfold jM_count
    refine ⟨fun z => absurd z (by decide), fun _ => ?_⟩
    refine ⟨fun z => absurd z (by decide), fun _ => ?_⟩
    refine ⟨fun z => absurd z (by decide), fun _ => ?_⟩
    refine ⟨fun z => absurd z (by decide), fun _ => ?_⟩
    refine ⟨fun _ => ?_, fun z => absurd rfl z⟩
    exact lateArrowsM_ok hM.1 hv (stay _ hX _)
  refine ⟨fun e => ?_, fun e5 => ?_⟩
  · subst e
    unfold jB_crossingPoints
    refine draw_ok hX.1 hv (Or.inl rfl) (fun M3 hs3 hd3 => ?_)
    have hX3 := hX.scr (M2 := M3) (fun a ha => hs3 a (by omega) (by omega) (by omega))
    refine pointsInAll_ok (hs3.cv (Or.inl rfl) hX.1) hv hd3 ?_
    unfold jM_count
    refine ⟨fun z => absurd z (by decide), fun _ => ?_⟩
    refine ⟨fun z => absurd z (by decide), fun _ => ?_⟩
    refine ⟨fun z => absurd z (by decide), fun _ => ?_⟩
    refine ⟨fun z => absurd z (by decide), fun _ => ?_⟩
    refine ⟨fun z => absurd z (by decide), fun _ => ?_⟩
    refine ⟨fun _ => ?_, fun z => absurd rfl z⟩
    exact allPoints_ok hM.1 hv (fun M' hs' => ⟨rfl, _, _, _, _, _, _, _, hV, hX3, hM.scr (fun a a6 _ => hs' a (by omega))⟩)
  refine ⟨fun e => ?_, fun e6 => ?_⟩
  · subst e
    refine greatestEnd_ok hX.1 hv ?_
    unfold jM_count
    refine ⟨fun z => absurd z (by decide), fun _ => ?_⟩
    refine ⟨fun z => absurd z (by decide), fun _ => ?_⟩
    refine ⟨fun z => absurd z (by decide), fun _ => ?_⟩
    refine ⟨fun z => absurd z (by decide), fun _ => ?_⟩
    refine ⟨fun z => absurd z (by decide), fun _ => ?_⟩
    refine ⟨fun z => absurd z (by decide), fun _ => ?_⟩
    refine ⟨fun _ => ?_, fun z => absurd rfl z⟩
    exact greatestEndM_ok hM.1 hv (stay _ hX _)
  refine ⟨fun e => ?_, fun e7 => ?_⟩
  · subst e
    unfold jB_stripsInAll
    refine cut_ok hX.1 hv (Or.inl rfl) (fun M1 hs hC => ?_)
    unfold jM_count
    refine ⟨fun z => absurd z (by decide), fun _ => ?_⟩
    refine ⟨fun z => absurd z (by decide), fun _ => ?_⟩
    refine ⟨fun z => absurd z (by decide), fun _ => ?_⟩
    refine ⟨fun z => absurd z (by decide), fun _ => ?_⟩
    refine ⟨fun z => absurd z (by decide), fun _ => ?_⟩
    refine ⟨fun z => absurd z (by decide), fun _ => ?_⟩
    refine ⟨fun z => absurd z (by decide), fun _ => ?_⟩
    refine ⟨fun _ => ?_, fun z => absurd rfl z⟩
    exact strips_ok hM.1 hv hC (stay _ (smC.scr hX hs) _)
  refine ⟨fun e => ?_, fun e8 => ?_⟩
  · subst e
    refine greatestEnd_ok hX.1 hv (place_ok hX.1 hv g2.1 g2.2 ?_)
    unfold jM_count
    refine ⟨fun z => absurd z (by decide), fun _ => ?_⟩
    refine ⟨fun z => absurd z (by decide), fun _ => ?_⟩
    refine ⟨fun z => absurd z (by decide), fun _ => ?_⟩
    refine ⟨fun z => absurd z (by decide), fun _ => ?_⟩
    refine ⟨fun z => absurd z (by decide), fun _ => ?_⟩
    refine ⟨fun z => absurd z (by decide), fun _ => ?_⟩
    refine ⟨fun z => absurd z (by decide), fun _ => ?_⟩
    refine ⟨fun z => absurd z (by decide), fun _ => ?_⟩
    refine ⟨fun _ => ?_, fun z => absurd rfl z⟩
    exact greatestEndM_ok hM.1 hv (widthOf0_ok hM.1 hv g2.1 g2.2 (stay _ hX _))
  refine ⟨fun e => ?_, fun e9 => ?_⟩
  · subst e
    refine critical_ok hX.1 hv (fun D hD M' hs => ?_)
    unfold jM_count
    refine ⟨fun z => absurd z (by decide), fun _ => ?_⟩
    refine ⟨fun z => absurd z (by decide), fun _ => ?_⟩
    refine ⟨fun z => absurd z (by decide), fun _ => ?_⟩
    refine ⟨fun z => absurd z (by decide), fun _ => ?_⟩
    refine ⟨fun z => absurd z (by decide), fun _ => ?_⟩
    refine ⟨fun z => absurd z (by decide), fun _ => ?_⟩
    refine ⟨fun z => absurd z (by decide), fun _ => ?_⟩
    refine ⟨fun z => absurd z (by decide), fun _ => ?_⟩
    refine ⟨fun z => absurd z (by decide), fun _ => ?_⟩
    refine ⟨fun _ => ?_, fun z => absurd rfl z⟩
    exact criticalM_ok hM.1 hv hD (fun M1 hs1 => ⟨rfl, _, _, _, _, _, _, _, hV, hX.scr (fun a ha => hs a (by omega)), hM.scr (fun a a6 _ => hs1 a (by omega) (by omega))⟩)
  refine ⟨fun e => ?_, fun e10 => ?_⟩
  · subst e
    unfold jM_count
    refine ⟨fun z => absurd z (by decide), fun _ => ?_⟩
    refine ⟨fun z => absurd z (by decide), fun _ => ?_⟩
    refine ⟨fun z => absurd z (by decide), fun _ => ?_⟩
    refine ⟨fun z => absurd z (by decide), fun _ => ?_⟩
    refine ⟨fun z => absurd z (by decide), fun _ => ?_⟩
    refine ⟨fun z => absurd z (by decide), fun _ => ?_⟩
    refine ⟨fun z => absurd z (by decide), fun _ => ?_⟩
    refine ⟨fun z => absurd z (by decide), fun _ => ?_⟩
    refine ⟨fun z => absurd z (by decide), fun _ => ?_⟩
    refine ⟨fun z => absurd z (by decide), fun _ => ?_⟩
    refine ⟨fun _ => ?_, fun z => absurd rfl z⟩
    show Mm 1 444 = Mx 0 1 ∧ PI B Mx Mm
    rw [show Mm 1 444 = A 1 0 from hM.1.ever, show Mx 0 1 = A 1 0 from hX.1.ever]
    exact stay _ hX _
  refine ⟨fun e => ?_, fun e11 => ?_⟩
  · subst e
    unfold jM_count
    refine ⟨fun z => absurd z (by decide), fun _ => ?_⟩
    refine ⟨fun z => absurd z (by decide), fun _ => ?_⟩
    refine ⟨fun z => absurd z (by decide), fun _ => ?_⟩
    refine ⟨fun z => absurd z (by decide), fun _ => ?_⟩
    refine ⟨fun z => absurd z (by decide), fun _ => ?_⟩
    refine ⟨fun z => absurd z (by decide), fun _ => ?_⟩
    refine ⟨fun z => absurd z (by decide), fun _ => ?_⟩
    refine ⟨fun z => absurd z (by decide), fun _ => ?_⟩
    refine ⟨fun z => absurd z (by decide), fun _ => ?_⟩
    refine ⟨fun z => absurd z (by decide), fun _ => ?_⟩
    refine ⟨fun z => absurd z (by decide), fun _ => ?_⟩
    refine ⟨fun _ => ?_, fun z => absurd rfl z⟩
    show Mm 1 445 = Mx 0 7 ∧ PI B Mx Mm
    rw [show Mm 1 445 = A 7 0 from hM.1.aever, show Mx 0 7 = A 7 0 from hX.1.aever]
    exact stay _ hX _
  refine ⟨fun e => ?_, fun e12 => ?_⟩
  · subst e
    unfold jM_count
    refine ⟨fun z => absurd z (by decide), fun _ => ?_⟩
    refine ⟨fun z => absurd z (by decide), fun _ => ?_⟩
    refine ⟨fun z => absurd z (by decide), fun _ => ?_⟩
    refine ⟨fun z => absurd z (by decide), fun _ => ?_⟩
    refine ⟨fun z => absurd z (by decide), fun _ => ?_⟩
    refine ⟨fun z => absurd z (by decide), fun _ => ?_⟩
    refine ⟨fun z => absurd z (by decide), fun _ => ?_⟩
    refine ⟨fun z => absurd z (by decide), fun _ => ?_⟩
    refine ⟨fun z => absurd z (by decide), fun _ => ?_⟩
    refine ⟨fun z => absurd z (by decide), fun _ => ?_⟩
    refine ⟨fun z => absurd z (by decide), fun _ => ?_⟩
    refine ⟨fun z => absurd z (by decide), fun _ => ?_⟩
    refine ⟨fun _ => ?_, fun z => absurd rfl z⟩
    show Mm 1 446 = Mx 0 13 ∧ PI B Mx Mm
    rw [show Mm 1 446 = A 13 0 from hM.1.slip, show Mx 0 13 = A 13 0 from hX.1.slip]
    exact stay _ hX _
  refine ⟨fun e => ?_, fun e13 => ?_⟩
  · subst e
    unfold jM_count
    refine ⟨fun z => absurd z (by decide), fun _ => ?_⟩
    refine ⟨fun z => absurd z (by decide), fun _ => ?_⟩
    refine ⟨fun z => absurd z (by decide), fun _ => ?_⟩
    refine ⟨fun z => absurd z (by decide), fun _ => ?_⟩
    refine ⟨fun z => absurd z (by decide), fun _ => ?_⟩
    refine ⟨fun z => absurd z (by decide), fun _ => ?_⟩
    refine ⟨fun z => absurd z (by decide), fun _ => ?_⟩
    refine ⟨fun z => absurd z (by decide), fun _ => ?_⟩
    refine ⟨fun z => absurd z (by decide), fun _ => ?_⟩
    refine ⟨fun z => absurd z (by decide), fun _ => ?_⟩
    refine ⟨fun z => absurd z (by decide), fun _ => ?_⟩
    refine ⟨fun z => absurd z (by decide), fun _ => ?_⟩
    refine ⟨fun z => absurd z (by decide), fun _ => ?_⟩
    refine ⟨fun _ => ?_, fun z => absurd rfl z⟩
    show Mm 0 3 = Mx 71 2 ∧ PI B Mx Mm
    rw [show Mm 0 3 = h from hM.2.1, show Mx 71 2 = h from hX.2.1]
    exact stay _ hX _
  refine ⟨fun e => ?_, fun e14 => ?_⟩
  · subst e
    unfold jM_count
    refine ⟨fun z => absurd z (by decide), fun _ => ?_⟩
    refine ⟨fun z => absurd z (by decide), fun _ => ?_⟩
    refine ⟨fun z => absurd z (by decide), fun _ => ?_⟩
    refine ⟨fun z => absurd z (by decide), fun _ => ?_⟩
    refine ⟨fun z => absurd z (by decide), fun _ => ?_⟩
    refine ⟨fun z => absurd z (by decide), fun _ => ?_⟩
    refine ⟨fun z => absurd z (by decide), fun _ => ?_⟩
    refine ⟨fun z => absurd z (by decide), fun _ => ?_⟩
    refine ⟨fun z => absurd z (by decide), fun _ => ?_⟩
    refine ⟨fun z => absurd z (by decide), fun _ => ?_⟩
    refine ⟨fun z => absurd z (by decide), fun _ => ?_⟩
    refine ⟨fun z => absurd z (by decide), fun _ => ?_⟩
    refine ⟨fun z => absurd z (by decide), fun _ => ?_⟩
    refine ⟨fun z => absurd z (by decide), fun _ => ?_⟩
    refine ⟨fun _ => ?_, fun z => absurd rfl z⟩
    show Mm 0 7 = Mx 73 1 ∧ PI B Mx Mm
    rw [show Mm 0 7 = L from hM.2.2.2.2.2.1, show Mx 73 1 = L from hX.2.2.2.2.2.2.1]
    exact stay _ hX _
  refine ⟨fun e => ?_, fun e15 => ?_⟩
  · subst e
    unfold jM_count
    refine ⟨fun z => absurd z (by decide), fun _ => ?_⟩
    refine ⟨fun z => absurd z (by decide), fun _ => ?_⟩
    refine ⟨fun z => absurd z (by decide), fun _ => ?_⟩
    refine ⟨fun z => absurd z (by decide), fun _ => ?_⟩
    refine ⟨fun z => absurd z (by decide), fun _ => ?_⟩
    refine ⟨fun z => absurd z (by decide), fun _ => ?_⟩
    refine ⟨fun z => absurd z (by decide), fun _ => ?_⟩
    refine ⟨fun z => absurd z (by decide), fun _ => ?_⟩
    refine ⟨fun z => absurd z (by decide), fun _ => ?_⟩
    refine ⟨fun z => absurd z (by decide), fun _ => ?_⟩
    refine ⟨fun z => absurd z (by decide), fun _ => ?_⟩
    refine ⟨fun z => absurd z (by decide), fun _ => ?_⟩
    refine ⟨fun z => absurd z (by decide), fun _ => ?_⟩
    refine ⟨fun z => absurd z (by decide), fun _ => ?_⟩
    refine ⟨fun z => absurd z (by decide), fun _ => ?_⟩
    refine ⟨fun _ => ?_, fun z => absurd rfl z⟩
    refine ⟨by omega, by omega, by omega, by omega, ?_⟩
    show Mm 1 (442 + 15 - 15) = Mx 9 0 ∧ PI B Mx Mm
    rw [show (442 + 15 - 15 : Int) = 442 + 0 by omega, show Mm 1 (442 + 0) = A 12 0 from hM.1.set 0 (by omega) (by omega), show Mx 9 0 = A 12 0 from hX.1.set 0 (by omega) (by omega)]
    exact stay _ hX _
  refine ⟨fun e => ?_, fun e16 => ?_⟩
  · subst e
    unfold jM_count
    refine ⟨fun z => absurd z (by decide), fun _ => ?_⟩
    refine ⟨fun z => absurd z (by decide), fun _ => ?_⟩
    refine ⟨fun z => absurd z (by decide), fun _ => ?_⟩
    refine ⟨fun z => absurd z (by decide), fun _ => ?_⟩
    refine ⟨fun z => absurd z (by decide), fun _ => ?_⟩
    refine ⟨fun z => absurd z (by decide), fun _ => ?_⟩
    refine ⟨fun z => absurd z (by decide), fun _ => ?_⟩
    refine ⟨fun z => absurd z (by decide), fun _ => ?_⟩
    refine ⟨fun z => absurd z (by decide), fun _ => ?_⟩
    refine ⟨fun z => absurd z (by decide), fun _ => ?_⟩
    refine ⟨fun z => absurd z (by decide), fun _ => ?_⟩
    refine ⟨fun z => absurd z (by decide), fun _ => ?_⟩
    refine ⟨fun z => absurd z (by decide), fun _ => ?_⟩
    refine ⟨fun z => absurd z (by decide), fun _ => ?_⟩
    refine ⟨fun z => absurd z (by decide), fun _ => ?_⟩
    refine ⟨fun z => absurd z (by decide), fun _ => ?_⟩
    refine ⟨fun _ => ?_, fun z => absurd rfl z⟩
    refine ⟨by omega, by omega, by omega, by omega, ?_⟩
    show Mm 1 (442 + 16 - 15) = Mx 9 1 ∧ PI B Mx Mm
    rw [show (442 + 16 - 15 : Int) = 442 + 1 by omega, show Mm 1 (442 + 1) = A 12 1 from hM.1.set 1 (by omega) (by omega), show Mx 9 1 = A 12 1 from hX.1.set 1 (by omega) (by omega)]
    exact stay _ hX _
  unfold jM_count
  exact ⟨fun z => absurd z e0, fun _ => ⟨fun z => absurd z e1, fun _ => ⟨fun z => absurd z e2, fun _ => ⟨fun z => absurd z e3, fun _ => ⟨fun z => absurd z e4, fun _ => ⟨fun z => absurd z e5, fun _ => ⟨fun z => absurd z e6, fun _ => ⟨fun z => absurd z e7, fun _ => ⟨fun z => absurd z e8, fun _ => ⟨fun z => absurd z e9, fun _ => ⟨fun z => absurd z e10, fun _ => ⟨fun z => absurd z e11, fun _ => ⟨fun z => absurd z e12, fun _ => ⟨fun z => absurd z e13, fun _ => ⟨fun z => absurd z e14, fun _ => ⟨fun z => absurd z e15, fun _ => ⟨fun z => absurd z e16, fun _ => stay _ hX _⟩⟩⟩⟩⟩⟩⟩⟩⟩⟩⟩⟩⟩⟩⟩⟩⟩
end AC
