/-! what is asked of an arrow -/
section AC
variable {A A' S : zA} {H : Int → zA} {h fl L B : Int} {T : Int → Int} {M M2 Mm Mx : zM} {b : Nat}
theorem arrowOf_pair (hp : PI B Mx Mm) (p w : Int) : jB_arrowOf p w Mx (fun r Mx' => jM_arrowOf p w Mm (fun r' Mm' => r' = r ∧ PI B Mx' Mm')) := by
  obtain ⟨A, H, h, fl, S, L, T, hV, hX, hM⟩ := hp
  have hv := hV.1
  have hn := hv.n
  have ha := hv.a
  have stay : ∀ Mx', IX A H h fl S L T Mx' → ∀ r : Int, r = r ∧ PI B Mx' Mm := fun Mx' hX' r => ⟨rfl, _, _, _, _, _, _, _, hV, hX', hM⟩
  unfold jB_arrowOf
  refine arrowSlotOf_ok hX.1 hv (fun s s0 s1 es => ⟨fun _ => ?_, fun z => absurd s0 z⟩) (fun hno => ⟨fun z => absurd z (by decide), fun _ => ?_⟩)
  · have fs := hv.from s s0 s1
    have ts := hv.to s s0 s1
    have df := hv.day _ fs.1 fs.2
    have dt := hv.day _ ts.1 ts.2
    have gf := bar_gEnd hv fs.1 fs.2
    have gt := bar_gEnd hv ts.1 ts.2
    have g2 := gEnd_rng hv
    have same : ∀ s', 0 ≤ s' → s' < A 6 0 → A 8 s' = p → s' = s := fun s' a c e => anum_uniq hv a c s0 s1 (e.trans es.symm)
    refine draw_ok hX.1 hv (Or.inl rfl) (fun M3 hs3 hd3 => ?_)
    have hc3 : CV A M3 0 := hs3.cv (Or.inl rfl) hX.1
    have hX3 := hX.scr (M2 := M3) (fun a ha => hs3 a (by omega) (by omega) (by omega))
    have bd := hd3.2.1 s s0 s1
    rw [bd.1]
    have fwd : ¬ bendA A s = -5 → endA A (A 9 s) ≤ A 4 (A 10 s) := by
      intro hb
      rcases bd.2 with ⟨z, _⟩ | ⟨z, _⟩
      · exact absurd z hb
      · have q := z.1
        have q2 : endA A (A 9 s) ≤ bendA A s ∧ bendA A s ≤ A 4 (A 10 s) := q
        omega
    have ee : endA A (A 9 s) = A 4 (A 9 s) + A 5 (A 9 s) := rfl
    have et : endA A (A 10 s) = A 4 (A 10 s) + A 5 (A 10 s) := rfl
    have key : ∀ s2 : Int, (s2 = 0 ↔ bendA A s = -5) → jB_arrowOf_J45 p w (fun r Mx' => jM_arrowOf p w Mm (fun r' Mm' => r' = r ∧ PI B Mx' Mm')) s s2 M3 := by
      intro s2 h2
      unfold jB_arrowOf_J45
      rw [show M3 6 s = A 9 s from hc3.from s s0 s1, show M3 7 s = A 10 s from hc3.to s s0 s1]
      refine ⟨s0, by omega, endOf_ok hc3 hv fs.1 fs.2 ⟨s0, by omega, ts.1, by omega, ?_⟩⟩
      rintro _ rfl
      rw [show M3 3 (A 10 s) = A 4 (A 10 s) from hc3.first _ ts.1 ts.2]
      refine ⟨fun e => ?_, fun e0 => ?_⟩
      · subst e
        refine ⟨s0, by omega, fs.1, by omega, ?_⟩
        rw [show M3 1 (A 9 s) = A 2 (A 9 s) from hc3.num _ fs.1 fs.2]
        unfold jM_arrowOf
        refine findArrow_ok hM.1 hv (fun s' s0' s1' es' => ⟨fun _ => ?_, fun z => by omega⟩) (fun hno => absurd es (hno s s0 s1))
        have e : s' = s := same s' s0' s1' es'
        subst e
        refine in_ok (fun _ _ => ⟨fun _ => ?_, fun z => absurd z (by decide)⟩) (fun z => absurd ⟨by decide, by decide⟩ z)
        refine bend_ok hM.1 hv s0 s1 (from_ok hM.1 hv s0 s1 (end_ok hM.1 hv fs.1 fs.2 (to_ok hM.1 hv s0 s1 (of2_ok hM.1 hv ts.1 ts.2 ?_))))
        refine ⟨fun _ => ?_, fun z => absurd rfl z⟩
        refine ⟨by omega, by omega, by omega, by omega, by omega, by omega, ?_⟩
        rw [show 122 + 3 * s' + 1 + 0 = 122 + 3 * s' + 1 by omega, hM.1.from s' s0 s1]
        exact stay _ hX3 _
      refine ⟨fun e => ?_, fun e1 => ?_⟩
      · subst e
        refine ⟨s0, by omega, ts.1, by omega, ?_⟩
        rw [show M3 1 (A 10 s) = A 2 (A 10 s) from hc3.num _ ts.1 ts.2]
        unfold jM_arrowOf
        refine findArrow_ok hM.1 hv (fun s' s0' s1' es' => ⟨fun _ => ?_, fun z => by omega⟩) (fun hno => absurd es (hno s s0 s1))
        have e : s' = s := same s' s0' s1' es'
        subst e
        refine in_ok (fun _ _ => ⟨fun _ => ?_, fun z => absurd z (by decide)⟩) (fun z => absurd ⟨by decide, by decide⟩ z)
        refine bend_ok hM.1 hv s0 s1 (from_ok hM.1 hv s0 s1 (end_ok hM.1 hv fs.1 fs.2 (to_ok hM.1 hv s0 s1 (of2_ok hM.1 hv ts.1 ts.2 ?_))))
        refine ⟨fun z => absurd z (by decide), fun _ => ?_⟩
        refine ⟨fun _ => ?_, fun z => absurd rfl z⟩
        refine ⟨by omega, by omega, by omega, by omega, by omega, by omega, ?_⟩
        rw [show 122 + 3 * s' + 1 + 1 = 122 + 3 * s' + 2 by omega, hM.1.to s' s0 s1]
        exact stay _ hX3 _
      refine ⟨fun e => ?_, fun e2 => ?_⟩
      · subst e
        refine ⟨s0, by omega, ?_⟩
        rw [bd.1]
        unfold jM_arrowOf
        refine findArrow_ok hM.1 hv (fun s' s0' s1' es' => ⟨fun _ => ?_, fun z => by omega⟩) (fun hno => absurd es (hno s s0 s1))
        have e : s' = s := same s' s0' s1' es'
        subst e
        refine in_ok (fun _ _ => ⟨fun _ => ?_, fun z => absurd z (by decide)⟩) (fun z => absurd ⟨by decide, by decide⟩ z)
        refine bend_ok hM.1 hv s0 s1 (from_ok hM.1 hv s0 s1 (end_ok hM.1 hv fs.1 fs.2 (to_ok hM.1 hv s0 s1 (of2_ok hM.1 hv ts.1 ts.2 ?_))))
        refine ⟨fun z => absurd z (by decide), fun _ => ?_⟩
        refine ⟨fun z => absurd z (by decide), fun _ => ?_⟩
        refine ⟨fun _ => ?_, fun z => absurd rfl z⟩
        exact stay _ hX3 _
      refine ⟨fun e => ?_, fun e3 => ?_⟩
      · subst e
        refine lateBy_ok hc3 hv s0 s1 ?_
        unfold jM_arrowOf
        refine findArrow_ok hM.1 hv (fun s' s0' s1' es' => ⟨fun _ => ?_, fun z => by omega⟩) (fun hno => absurd es (hno s s0 s1))
        have e : s' = s := same s' s0' s1' es'
        subst e
        refine in_ok (fun _ _ => ⟨fun _ => ?_, fun z => absurd z (by decide)⟩) (fun z => absurd ⟨by decide, by decide⟩ z)
        refine bend_ok hM.1 hv s0 s1 (from_ok hM.1 hv s0 s1 (end_ok hM.1 hv fs.1 fs.2 (to_ok hM.1 hv s0 s1 (of2_ok hM.1 hv ts.1 ts.2 ?_))))
        refine ⟨fun z => absurd z (by decide), fun _ => ?_⟩
        refine ⟨fun z => absurd z (by decide), fun _ => ?_⟩
        refine ⟨fun z => absurd z (by decide), fun _ => ?_⟩
        refine ⟨fun _ => ?_, fun z => absurd rfl z⟩
        exact lateByM_ok hM.1 hv s0 s1 (stay _ hX3 _)
      refine ⟨fun e => ?_, fun e4 => ?_⟩
      · subst e
        refine freeBends_ok hc3 hv hd3.1 s0 s1 ?_
        unfold jM_arrowOf
        refine findArrow_ok hM.1 hv (fun s' s0' s1' es' => ⟨fun _ => ?_, fun z => by omega⟩) (fun hno => absurd es (hno s s0 s1))
        have e : s' = s := same s' s0' s1' es'
        subst e
        refine in_ok (fun _ _ => ⟨fun _ => ?_, fun z => absurd z (by decide)⟩) (fun z => absurd ⟨by decide, by decide⟩ z)
        refine bend_ok hM.1 hv s0 s1 (from_ok hM.1 hv s0 s1 (end_ok hM.1 hv fs.1 fs.2 (to_ok hM.1 hv s0 s1 (of2_ok hM.1 hv ts.1 ts.2 ?_))))
        refine ⟨fun z => absurd z (by decide), fun _ => ?_⟩
        refine ⟨fun z => absurd z (by decide), fun _ => ?_⟩
        refine ⟨fun z => absurd z (by decide), fun _ => ?_⟩
        refine ⟨fun z => absurd z (by decide), fun _ => ?_⟩
        refine ⟨fun _ => ?_, fun z => absurd rfl z⟩
        exact freeBendsM_ok hM.1 hv s0 s1 (stay _ hX3 _)
      refine ⟨fun e => ?_, fun e5 => ?_⟩
      · subst e
        refine ⟨fun q => ?_, fun q => widthBetween_ok hc3 hv (by omega) (by have := fwd (fun z => q (h2.mpr z)); omega) (by omega) ?_⟩
        · unfold jM_arrowOf
          refine findArrow_ok hM.1 hv (fun s' s0' s1' es' => ⟨fun _ => ?_, fun z => by omega⟩) (fun hno => absurd es (hno s s0 s1))
          have e : s' = s := same s' s0' s1' es'
          subst e
          refine in_ok (fun _ _ => ⟨fun _ => ?_, fun z => absurd z (by decide)⟩) (fun z => absurd ⟨by decide, by decide⟩ z)
          refine bend_ok hM.1 hv s0 s1 (from_ok hM.1 hv s0 s1 (end_ok hM.1 hv fs.1 fs.2 (to_ok hM.1 hv s0 s1 (of2_ok hM.1 hv ts.1 ts.2 ?_))))
          refine ⟨fun z => absurd z (by decide), fun _ => ?_⟩
          refine ⟨fun z => absurd z (by decide), fun _ => ?_⟩
          refine ⟨fun z => absurd z (by decide), fun _ => ?_⟩
          refine ⟨fun z => absurd z (by decide), fun _ => ?_⟩
          refine ⟨fun z => absurd z (by decide), fun _ => ?_⟩
          refine ⟨fun _ => ?_, fun z => absurd rfl z⟩
          exact ⟨fun z => absurd (h2.mp q) z, fun _ => stay _ hX3 _⟩
        · unfold jM_arrowOf
          refine findArrow_ok hM.1 hv (fun s' s0' s1' es' => ⟨fun _ => ?_, fun z => by omega⟩) (fun hno => absurd es (hno s s0 s1))
          have e : s' = s := same s' s0' s1' es'
          subst e
          refine in_ok (fun _ _ => ⟨fun _ => ?_, fun z => absurd z (by decide)⟩) (fun z => absurd ⟨by decide, by decide⟩ z)
          refine bend_ok hM.1 hv s0 s1 (from_ok hM.1 hv s0 s1 (end_ok hM.1 hv fs.1 fs.2 (to_ok hM.1 hv s0 s1 (of2_ok hM.1 hv ts.1 ts.2 ?_))))
          refine ⟨fun z => absurd z (by decide), fun _ => ?_⟩
          refine ⟨fun z => absurd z (by decide), fun _ => ?_⟩
          refine ⟨fun z => absurd z (by decide), fun _ => ?_⟩
          refine ⟨fun z => absurd z (by decide), fun _ => ?_⟩
          refine ⟨fun z => absurd z (by decide), fun _ => ?_⟩
          refine ⟨fun _ => ?_, fun z => absurd rfl z⟩
          refine ⟨fun z => widthOf_ok hM.1 hv (by omega) (by have := fwd z; omega) (by omega) (stay _ hX3 _), fun z => absurd (h2.mpr z) q⟩
      refine ⟨fun e => ?_, fun e6 => ?_⟩
      · subst e
        refine pointsOf_ok hc3 hv hd3 s0 s1 ?_
        unfold jM_arrowOf
        refine findArrow_ok hM.1 hv (fun s' s0' s1' es' => ⟨fun _ => ?_, fun z => by omega⟩) (fun hno => absurd es (hno s s0 s1))
        have e : s' = s := same s' s0' s1' es'
        subst e
        refine in_ok (fun _ _ => ⟨fun _ => ?_, fun z => absurd z (by decide)⟩) (fun z => absurd ⟨by decide, by decide⟩ z)
        refine bend_ok hM.1 hv s0 s1 (from_ok hM.1 hv s0 s1 (end_ok hM.1 hv fs.1 fs.2 (to_ok hM.1 hv s0 s1 (of2_ok hM.1 hv ts.1 ts.2 ?_))))
        refine ⟨fun z => absurd z (by decide), fun _ => ?_⟩
        refine ⟨fun z => absurd z (by decide), fun _ => ?_⟩
        refine ⟨fun z => absurd z (by decide), fun _ => ?_⟩
        refine ⟨fun z => absurd z (by decide), fun _ => ?_⟩
        refine ⟨fun z => absurd z (by decide), fun _ => ?_⟩
        refine ⟨fun z => absurd z (by decide), fun _ => ?_⟩
        refine ⟨fun _ => ?_, fun z => absurd rfl z⟩
        exact pointsOfM_ok hM.1 hv s0 s1 (fun M' hs' => ⟨rfl, _, _, _, _, _, _, _, hV, hX3, hM.scr (fun a a6 _ => hs' a (by omega))⟩)
      refine ⟨fun e => ?_, fun e7 => ?_⟩
      · subst e
        refine ⟨fun q => ?_, fun q => stripB1_ok hc3 hv (by omega) (by omega) (fun st n t hC t0 t1 ta tb M' hs => ⟨by omega, ?_⟩)⟩
        · unfold jM_arrowOf
          refine findArrow_ok hM.1 hv (fun s' s0' s1' es' => ⟨fun _ => ?_, fun z => by omega⟩) (fun hno => absurd es (hno s s0 s1))
          have e : s' = s := same s' s0' s1' es'
          subst e
          refine in_ok (fun _ _ => ⟨fun _ => ?_, fun z => absurd z (by decide)⟩) (fun z => absurd ⟨by decide, by decide⟩ z)
          refine bend_ok hM.1 hv s0 s1 (from_ok hM.1 hv s0 s1 (end_ok hM.1 hv fs.1 fs.2 (to_ok hM.1 hv s0 s1 (of2_ok hM.1 hv ts.1 ts.2 ?_))))
          refine ⟨fun z => absurd z (by decide), fun _ => ?_⟩
          refine ⟨fun z => absurd z (by decide), fun _ => ?_⟩
          refine ⟨fun z => absurd z (by decide), fun _ => ?_⟩
          refine ⟨fun z => absurd z (by decide), fun _ => ?_⟩
          refine ⟨fun z => absurd z (by decide), fun _ => ?_⟩
          refine ⟨fun z => absurd z (by decide), fun _ => ?_⟩
          refine ⟨fun z => absurd z (by decide), fun _ => ?_⟩
          exact ⟨fun z => absurd (h2.mp q) z, fun _ => stay _ hX3 _⟩
        · have c1 : CV A M' 0 := hs.cv (Or.inl rfl) hc3
          refine stripB1_ok c1 hv (by omega) (by omega) (fun st2 n2 t2 hC2 t20 t21 t2a t2b M2' hs2 => ?_)
          have r1 := cut_rng hv hC hC.1 (Int.le_refl _)
          have r2 := cut_rng hv hC2 hC2.1 (Int.le_refl _)
          refine ⟨by omega, ?_⟩
          unfold jM_arrowOf
          refine findArrow_ok hM.1 hv (fun s' s0' s1' es' => ⟨fun _ => ?_, fun z => by omega⟩) (fun hno => absurd es (hno s s0 s1))
          have e : s' = s := same s' s0' s1' es'
          subst e
          refine in_ok (fun _ _ => ⟨fun _ => ?_, fun z => absurd z (by decide)⟩) (fun z => absurd ⟨by decide, by decide⟩ z)
          refine bend_ok hM.1 hv s0 s1 (from_ok hM.1 hv s0 s1 (end_ok hM.1 hv fs.1 fs.2 (to_ok hM.1 hv s0 s1 (of2_ok hM.1 hv ts.1 ts.2 ?_))))
          refine ⟨fun z => absurd z (by decide), fun _ => ?_⟩
          refine ⟨fun z => absurd z (by decide), fun _ => ?_⟩
          refine ⟨fun z => absurd z (by decide), fun _ => ?_⟩
          refine ⟨fun z => absurd z (by decide), fun _ => ?_⟩
          refine ⟨fun z => absurd z (by decide), fun _ => ?_⟩
          refine ⟨fun z => absurd z (by decide), fun _ => ?_⟩
          refine ⟨fun z => absurd z (by decide), fun _ => ?_⟩
          exact ⟨fun _ => stripOfM_ok hM.1 hv hC t0 t1 ta tb ⟨by omega, stripOfM_ok hM.1 hv hC2 t20 t21 t2a t2b ⟨by omega, stay _ (smC.scr (smC.scr hX3 hs) hs2) _⟩⟩, fun z => absurd (h2.mpr z) q⟩
      unfold jM_arrowOf
      refine findArrow_ok hM.1 hv (fun s' s0' s1' es' => ⟨fun _ => ?_, fun z => by omega⟩) (fun hno => absurd es (hno s s0 s1))
      exact in_ok (fun a c => by omega) (fun _ => ⟨fun y => absurd rfl y, fun _ => stay _ hX3 _⟩)
    exact ⟨s0, by omega, fun z => key 0 ⟨fun _ => z, fun _ => rfl⟩, fun z => key 1 ⟨fun y => absurd y (by decide), fun y => absurd y z⟩⟩
  · unfold jM_arrowOf
    exact findArrow_ok hM.1 hv (fun s s0 s1 es => absurd es (hno s s0 s1)) (fun _ => ⟨fun z => absurd rfl z, fun _ => stay _ hX _⟩)
end AC
