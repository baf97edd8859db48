/-! what is asked: latest first days, slack, the longest row, if slipped, cells, reasons, strips -/
section AC
variable {A A' S : zA} {H : Int → zA} {h fl L B : Int} {T : Int → Int} {M M2 Mm Mx : zM} {b : Nat}
theorem latestOf_ok (hc : CV A M 0) (hv : Val B A) {s : Int} (s0 : 0 ≤ s) (s1 : s < A 0 0) {Φ : Int → zM → Prop} (k : ∀ D, LateP A (gEnd A) D → ∀ M', (∀ a, a < 79 → M' a = M a) → Φ (D s) M') : jB_latestOf s M Φ := by
  have hn := hv.n
  unfold jB_latestOf
  exact read_ok hc hv (Or.inl rfl) (fun M3 hs3 ho3 hp3 => findLatest_ok (hs3.cv (Or.inl rfl) hc) hv (Or.inl rfl) ho3 hp3 (fun M5 hs5 hD => ⟨s0, by omega, k _ hD M5 (fun a ha => (hs5 a (by omega)).trans (hs3 a (by omega) (by omega) (by omega)))⟩))
theorem slackM_ok (hr : RV A (M 1)) (hv : Val B A) {s : Int} (s0 : 0 ≤ s) (s1 : s < A 0 0) {D : Int → Int} (hD : LateP A (gEnd A) D) {Φ : Int → zM → Prop} (k : ∀ M', (∀ q, q ≠ 7 → q ≠ 8 → M' q = M q) → Φ (D s - A 4 s) M') : jM_slack s M Φ := by
  have hn := hv.n
  have hg := gEnd_rng hv
  have d := hD.1 s s0 s1
  have ds := hv.day s s0 s1
  unfold jM_slack
  refine layLatest_ok hr hv hD (fun M1 hs1 h8 => ⟨s0, by omega, of2_ok (by rw [hs1 1 (by omega) (by omega)]; exact hr) hv s0 s1 ?_⟩)
  rw [h8 s s0 s1]
  exact ⟨by omega, k M1 hs1⟩
theorem latest_pair (hp : PI B Mx Mm) (p : Int) : jB_latest p Mx (fun r Mx' => jM_latest p Mm (fun r' Mm' => r' = r ∧ PI B Mx' Mm')) := by
  obtain ⟨A, H, h, fl, S, L, T, hV, hX, hM⟩ := hp
  have hv := hV.1
  have hn := hv.n
  unfold jB_latest
  refine slotOf_ok hX.1 hv (fun s s0 s1 es => ⟨fun _ => latestOf_ok hX.1 hv s0 s1 (fun D hD M' hs => ?_), fun z => absurd s0 z⟩) (fun hno => ⟨fun z => absurd z (by decide), fun _ => ?_⟩)
  · unfold jM_latest
    refine find_ok hM.1 hv (fun s' s0' s1' es' => ⟨fun _ => ?_, fun z => by omega⟩) (fun hno => absurd es (hno s s0 s1))
    have e : s' = s := hv.uniq s0' s1' s0 s1 (es'.trans es.symm)
    subst e
    refine layLatest_ok hM.1 hv hD (fun M1 hs1 h8 => ⟨s0, by omega, ?_⟩)
    rw [h8 s' s0 s1]
    exact ⟨rfl, _, _, _, _, _, _, _, hV, hX.scr (fun a ha => hs a (by omega)), hM.scr (fun a a6 _ => hs1 a (by omega) (by omega))⟩
  · unfold jM_latest
    exact find_ok hM.1 hv (fun s s0 s1 es => absurd es (hno s s0 s1)) (fun _ => ⟨fun z => absurd rfl z, fun _ => ⟨rfl, _, _, _, _, _, _, _, hV, hX, hM⟩⟩)
def critN (A : zA) (D : Int → Int) : Int := cntA (fun j => decide (D j = A 4 j)) (A 0 0)
theorem critical_ok (hc : CV A M 0) (hv : Val B A) {Φ : Int → zM → Prop} (k : ∀ D, LateP A (gEnd A) D → ∀ M', (∀ a, a < 79 → M' a = M a) → Φ (critN A D) M') : jB_criticalBars M Φ := by
  have hn := hv.n
  unfold jB_criticalBars
  refine read_ok hc hv (Or.inl rfl) (fun M3 hs3 ho3 hp3 => findLatest_ok (hs3.cv (Or.inl rfl) hc) hv (Or.inl rfl) ho3 hp3 (fun M5 hs5 hD => ?_))
  have hs : ∀ a, a < 79 → M5 a = M a := fun a ha => (hs5 a (by omega)).trans (hs3 a (by omega) (by omega) (by omega))
  have hc5 : CV A M5 0 := hc.same (fun a a0 a1 => hs a (by omega))
  refine zfor2 (fun x => cntA (fun j => decide (M5 81 j = A 4 j)) x) (n := A 0 0) hn.1 rfl (fun K => ?_) (fun K x x0 x1 hK => ?_)
  · show jB_criticalBars_L26 K Φ M5 (cntA (fun j => decide (M5 81 j = A 4 j)) (A 0 0)) (A 0 0)
    unfold jB_criticalBars_L26
    rw [hc5.n]
    exact ⟨fun _ => k _ hD M5 hs, fun q => absurd (Int.le_refl _) q⟩
  · show jB_criticalBars_L26 K Φ M5 (cntA (fun j => decide (M5 81 j = A 4 j)) x) x
    have cr := cntA_rng (p := fun j => decide (M5 81 j = A 4 j)) x0
    unfold jB_criticalBars_L26
    rw [hc5.n, show M5 3 x = A 4 x from hc5.first x x0 x1]
    refine ⟨fun q => by omega, fun q => ⟨x0, by omega, x0, by omega, fun e => ⟨by omega, ?_⟩, fun e => ⟨by omega, ?_⟩⟩⟩
    · rintro _ rfl
      rw [cntA_f x0 (by rw [decide_eq_true_iff]; exact e), Int.add_zero] at hK
      exact hK
    · rintro _ rfl
      refine ⟨by omega, ?_⟩
      rintro _ rfl
      rw [cntA_t x0 (by rw [decide_eq_true_iff]; exact e)] at hK
      exact hK
theorem criticalM_ok (hr : RV A (M 1)) (hv : Val B A) {D : Int → Int} (hD : LateP A (gEnd A) D) {Φ : Int → zM → Prop} (k : ∀ M', (∀ q, q ≠ 7 → q ≠ 8 → M' q = M q) → Φ (critN A D) M') : jM_critical M Φ := by
  have hn := hv.n
  unfold jM_critical
  refine layLatest_ok hr hv hD (fun M1 hs1 h8 => ?_)
  have hr1 : RV A (M1 1) := by rw [hs1 1 (by omega) (by omega)]; exact hr
  refine zfor2 (fun x => cntA (fun j => decide (D j = A 4 j)) x) (n := A 0 0) hn.1 rfl (fun K => ?_) (fun K x x0 x1 hK => ?_)
  · show jM_critical_L8 K Φ M1 (critN A D) (A 0 0)
    unfold jM_critical_L8
    rw [hr1.n]
    exact ⟨fun _ => k M1 hs1, fun q => absurd (Int.le_refl _) q⟩
  · show jM_critical_L8 K Φ M1 (cntA (fun j => decide (D j = A 4 j)) x) x
    have cr := cntA_rng (p := fun j => decide (D j = A 4 j)) x0
    unfold jM_critical_L8
    rw [hr1.n, h8 x x0 x1]
    refine ⟨fun q => by omega, fun q => ⟨x0, by omega, of2_ok hr1 hv x0 x1 ⟨fun e => ⟨by omega, ?_⟩, fun e => ⟨by omega, ?_⟩⟩⟩⟩
    · rintro _ rfl
      refine ⟨by omega, ?_⟩
      rintro _ rfl
      rw [cntA_f x0 (by rw [decide_eq_true_iff]; exact e)] at hK
      exact hK
    · rintro _ rfl
      refine ⟨by omega, ?_⟩
      rintro _ rfl
      rw [cntA_t x0 (by rw [decide_eq_true_iff]; exact e)] at hK
      exact hK
theorem longest_pair (hp : PI B Mx Mm) : jB_longest Mx (fun r Mx' => jM_longest Mm (fun r' Mm' => r' = r ∧ PI B Mx' Mm')) := by
  obtain ⟨A, H, h, fl, S, L, T, hV, hX, hM⟩ := hp
  have hv := hV.1
  unfold jB_longest
  exact read_ok hX.1 hv (Or.inl rfl) (fun M3 hs3 ho3 hp3 => longestRow_ok (hs3.cv (Or.inl rfl) hX.1) hv (Or.inl rfl) ho3 hp3 (fun M5 hs5 hR => longestM_ok hM.1 hv ho3 hR (fun M1 hs1 => ⟨rfl, _, _, _, _, _, _, _, hV, hX.scr (fun a ha => (hs5 a (by omega)).trans (hs3 a (by omega) (by omega) (by omega))), hM.scr (fun a a6 _ => hs1 a (by omega) (by omega))⟩)))
theorem ifSlipped_pair (hB : B ≤ 2000000000) (hp : PI B Mx Mm) (p d : Int) : jB_ifSlipped p d Mx (fun r Mx' => jM_ifSlipped p d Mm (fun r' Mm' => r' = r ∧ PI B Mx' Mm')) := by
  obtain ⟨A, H, h, fl, S, L, T, hV, hX, hM⟩ := hp
  have hv := hV.1
  have hn := hv.n
  have stay : ∀ r : Int, r = r ∧ PI B Mx Mm := fun r => ⟨rfl, _, _, _, _, _, _, _, hV, hX, hM⟩
  unfold jB_ifSlipped
  refine slotOf_ok hX.1 hv (fun s s0 s1 es => ⟨fun _ => ?_, fun z => absurd s0 z⟩) (fun hno => ⟨fun z => absurd z (by decide), fun _ => ?_⟩)
  · have bad : ¬ (1 ≤ d ∧ d ≤ 30) → jM_ifSlipped p d Mm (fun r' Mm' => r' = -2 ∧ PI B Mx Mm') := by
      intro hd
      unfold jM_ifSlipped
      exact find_ok hM.1 hv (fun s' s0' s1' es' => ⟨fun _ => in_ok (fun l0 l1 => absurd ⟨l0, l1⟩ hd) (fun _ => ⟨fun y => absurd rfl y, fun _ => stay (-2)⟩), fun z => by omega⟩) (fun hno => absurd es (hno s s0 s1))
    refine ⟨fun q => bad (by omega), fun q => ⟨fun q2 => ?_, fun q2 => bad (by omega)⟩⟩
    refine read_ok hX.1 hv (Or.inl rfl) (fun M3 hs3 ho3 hp3 => slipFrom_ok (hs3.cv (Or.inl rfl) hX.1) hv (Or.inl rfl) ho3 hp3 (show 0 ≤ d by omega) q2 (fun M5 hs5 hD => ?_))
    unfold jM_ifSlipped
    refine find_ok hM.1 hv (fun s' s0' s1' es' => ⟨fun _ => in_ok (fun l0 l1 => ⟨fun _ => ?_, fun z => absurd z (by decide)⟩) (fun z => absurd ⟨by omega, q2⟩ z), fun z => by omega⟩) (fun hno => absurd es (hno s s0 s1))
    have e : s' = s := hv.uniq s0' s1' s0 s1 (es'.trans es.symm)
    subst e
    refine putAside_ok (fun M1 hs1 ha1 => slips_ok (by rw [hs1 1 (by omega)]; exact hM.1) hv hB (fun k k0 k1 => by rw [hs1 1 (by omega)]; exact ha1 k k0 k1) s0 s1 (by omega) l1 hD (fun M6 hs6 hr6 => ?_))
    refine geRaw hr6 (by rw [slipA_o (by decide) (by decide)]; exact hn) (fun j j0 j1 => ?_) ?_
    · rw [slipA_o (by decide) (by decide)] at j1
      rw [slipA_4 j0 j1, slipA_o (by decide) (by decide)]
      have := hD.1 j j0 j1
      have := fdA_nn hv (a := s') (show 0 ≤ d by omega) j0 j1
      have := hv.day j j0 j1
      omega
    · rw [slip_gEnd]
      refine putBack_ok (fun M10 hs10 hx10 => ⟨rfl, _, _, _, _, _, _, _, hV, hX.scr (fun a ha => (hs5 a (by omega)).trans (hs3 a (by omega) (by omega) (by omega))), ?_⟩)
      refine IM.new hM (fun q q1 q2 q6 => ((hs10 q q1).trans (hs6 q q1 (by omega))).trans (hs1 q q2)) (hM.1.same hv (fun x x0 x1 => ?_))
      rw [hx10 x x0 x1, hs6 2 (by omega) (by omega)]; exact ha1 x x0 x1
  · unfold jM_ifSlipped
    exact find_ok hM.1 hv (fun s s0 s1 es => absurd es (hno s s0 s1)) (fun _ => ⟨fun z => absurd rfl z, fun _ => stay (-1)⟩)
theorem cell_pair (hp : PI B Mx Mm) (w d : Int) : jB_cell w d Mx (fun r => jM_cell w d Mm (fun r' => r' = r)) := by
  obtain ⟨A, H, h, fl, S, L, T, hV, hX, hM⟩ := hp
  have hv := hV.1
  unfold jB_cell jM_cell
  refine isLane_ok (fun w0 w1 => ⟨fun z => absurd z (by decide), fun _ => isDay_ok (fun d0 d1 => ⟨fun z => absurd z (by decide), fun _ => ?_⟩) (fun z => ⟨fun _ => ?_, fun y => absurd rfl y⟩)⟩) (fun z => ⟨fun _ => ?_, fun y => absurd rfl y⟩)
  · have key : ∀ i, 0 ≤ i → i < A 0 0 → ∀ i', 0 ≤ i' → i' < A 0 0 → (A 3 i = w ∧ A 4 i ≤ d ∧ d < endA A i) → (A 3 i' = w ∧ A 4 i' ≤ d ∧ d < endA A i') → i' = i := by
      intro i i0 i1 i' i0' i1' q1 q2
      by_cases e : i = i'
      · exact e.symm
      · have := hv.apart i i' i0 i1 i0' i1' e (q1.1.trans q2.1.symm)
        unfold endA at q1 q2; omega
    refine barAt_ok hX.1 hv ⟨d0, d1⟩ (fun i i0 i1 e1 e2 e3 => ?_) (fun hno => ?_)
    · refine isLaneM_ok (fun _ _ => ⟨fun z => absurd z (by decide), fun _ => in_ok (fun _ _ => ⟨fun _ => ?_, fun z => absurd z (by decide)⟩) (fun z => absurd ⟨d0, by omega⟩ z)⟩) (fun z => absurd ⟨w0, w1⟩ z)
      refine within_ok hM.1 hv (fun i' i0' i1' hi' => ⟨fun _ => ?_, fun z => by omega⟩) (fun hno => absurd ⟨by omega, Int.le_refl _, e1, e2, e3⟩ (hno i i0 i1))
      have e : i' = i := key i i0 i1 i' i0' i1' ⟨e1, e2, e3⟩ ⟨hi'.2.2.1, hi'.2.2.2.1, hi'.2.2.2.2⟩
      subst e
      exact of0_ok hM.1 hv i0 i1 rfl
    · refine isLaneM_ok (fun _ _ => ⟨fun z => absurd z (by decide), fun _ => in_ok (fun _ _ => ⟨fun _ => ?_, fun z => absurd z (by decide)⟩) (fun z => absurd ⟨d0, by omega⟩ z)⟩) (fun z => absurd ⟨w0, w1⟩ z)
      exact within_ok hM.1 hv (fun i' i0' i1' hi' => absurd ⟨hi'.2.2.2.1, hi'.2.2.2.2⟩ (hno i' i0' i1' hi'.2.2.1)) (fun _ => ⟨fun z => absurd rfl z, fun _ => rfl⟩)
  · exact isLaneM_ok (fun _ _ => ⟨fun z => absurd z (by decide), fun _ => in_ok (fun a c => absurd ⟨a, by omega⟩ z) (fun _ => ⟨fun y => absurd rfl y, fun _ => rfl⟩)⟩) (fun z => absurd ⟨w0, w1⟩ z)
  · exact isLaneM_ok (fun a c => absurd ⟨a, c⟩ z) (fun _ => ⟨fun _ => rfl, fun y => absurd rfl y⟩)
theorem anum_uniq (hv : Val B A) {i j : Int} (i0 : 0 ≤ i) (i1 : i < A 6 0) (j0 : 0 ≤ j) (j1 : j < A 6 0) (e : A 8 i = A 8 j) : i = j := by
  rcases Int.lt_trichotomy i j with q | q | q
  · have := hv.anumlt i j i0 q j1; omega
  · exact q
  · have := hv.anumlt j i j0 q i1; omega
theorem reason_pair (hp : PI B Mx Mm) (p c : Int) : jB_reason p c Mx (fun r Mx' => jM_reason p c Mm (fun r' => r' = r ∧ PI B Mx' Mm)) := by
  obtain ⟨A, H, h, fl, S, L, T, hV, hX, hM⟩ := hp
  have hv := hV.1
  unfold jB_reason jM_reason
  refine arrowSlotOf_ok hX.1 hv (fun s s0 s1 es => ⟨fun _ => whyShut_ok hX.1 hv (Or.inl rfl) s0 s1 (fun M' hs => ?_), fun z => absurd s0 z⟩) (fun hno => ⟨fun z => absurd z (by decide), fun _ => ?_⟩)
  · refine findArrow_ok hM.1 hv (fun s' s0' s1' es' => ⟨fun _ => ?_, fun z => by omega⟩) (fun hno => absurd es (hno s s0 s1))
    have e : s' = s := anum_uniq hv s0' s1' s0 s1 (es'.trans es.symm)
    subst e
    exact reasonFor_ok hM.1 hv s0 s1 ⟨rfl, _, _, _, _, _, _, _, hV, hX.scr (fun a ha => hs a (by omega)), hM⟩
  · exact findArrow_ok hM.1 hv (fun s s0 s1 es => absurd es (hno s s0 s1)) (fun _ => ⟨fun z => absurd rfl z, fun _ => ⟨rfl, _, _, _, _, _, _, _, hV, hX, hM⟩⟩)
theorem strip_pair (hp : PI B Mx Mm) (i w : Int) : jB_strip i w Mx (fun r Mx' => jM_strip i w Mm (fun r' => r' = r ∧ PI B Mx' Mm)) := by
  obtain ⟨A, H, h, fl, S, L, T, hV, hX, hM⟩ := hp
  have hv := hV.1
  refine stripB_ok hX.1 hv (fun hb => ?_) (fun i0 w0 w1 M' hs n hC => ?_)
  · unfold jM_strip
    refine ⟨fun _ => ⟨rfl, _, _, _, _, _, _, _, hV, hX, hM⟩, fun q => in_ok (fun a c => by omega) (fun _ => ⟨fun y => absurd rfl y, fun _ => ⟨rfl, _, _, _, _, _, _, _, hV, hX, hM⟩⟩)⟩
  · exact stripM_ok hM.1 hv (fun hb => by omega) hC (fun _ _ _ => ⟨rfl, _, _, _, _, _, _, _, hV, hX.scr (fun a ha => hs a (by omega) (by omega)), hM⟩)
end AC
