/-! the law's own: a number made small, a bar or an arrow that there is, an act -/
theorem low_nn (x : Int) : 0 ≤ zand x 2147483647 := by
  unfold zand
  show 0 ≤ ((Int32.ofInt x &&& Int32.ofInt 2147483647).toBitVec).toInt
  rw [Int32.toBitVec_and, BitVec.toInt_eq_msb_cond, BitVec.msb_and]
  have e : (Int32.ofInt 2147483647).toBitVec.msb = false := by decide
  rw [e, Bool.and_false]
  exact Int.natCast_nonneg _
theorem low_ok {x n : Int} {M : zM} {Φ : Int → Prop} (n0 : 0 < n) (k : ∀ r, 0 ≤ r → r < n → Φ r) : jL_low x n M Φ :=
  ⟨low_nn x, n0, k _ (Int.emod_nonneg _ (by omega)) (Int.emod_lt_of_pos _ n0)⟩
section AC
variable {A A' S : zA} {H : Int → zA} {h fl L B : Int} {T : Int → Int} {M M2 : zM} {b : Nat} {Φ : Int → zM → Prop}
theorem lbar_ok (hV : VS B A H h fl S L T) (hX : IX A H h fl S L T M) (v : Int) (k : ∀ r M', IX A H h fl S L T M' → (r = -1 ∨ ∃ s, 0 ≤ s ∧ s < A 0 0 ∧ A 2 s = r) → Φ r M') : jL_bar v M Φ := by
  have hv := hV.1
  have he := hv.ever
  have hn := hv.n
  unfold jL_bar
  refine count10_one hV hX (fun M2 hX2 => ?_)
  have J51 : ∀ x M', IX A H h fl S L T M' → jL_bar_J51 v Φ (A 1 0) x M' := by
    intro x M' hX'
    unfold jL_bar_J51
    exact ⟨fun _ => k _ M' hX' (Or.inl rfl), fun _ => barOf0_any hV hX' x (fun _ => ⟨fun z => absurd z (by decide), fun _ => k _ M' hX' (Or.inl rfl)⟩) (fun s s0 s1 e => ⟨fun _ => k _ M' hX' (Or.inr ⟨s, s0, s1, e⟩), fun z => absurd (hv.lane s s0 s1).1 z⟩)⟩
  have J20 : ∀ x, (0 < A 1 0 → 0 ≤ x ∧ x < A 1 0) → jL_bar_J20 v Φ (A 1 0) x M2 := by
    intro x hx
    unfold jL_bar_J20
    refine zwh_run (fun s => (0 ≤ s.2.1 ∧ s.2.1 ≤ A 1 0) ∧ (0 < A 1 0 → 0 ≤ s.1 ∧ s.1 < A 1 0) ∧ IX A H h fl S L T s.2.2) (fun s => (A 1 0 - s.2.1).toNat) ?_ (x, 0, M2) ⟨⟨Int.le_refl 0, show (0 : Int) ≤ A 1 0 by omega⟩, hx, hX2⟩
    rintro K ⟨x3, x4, M3⟩ ⟨⟨y0, y1⟩, hx3, hX3⟩ hK
    have y0 : 0 ≤ x4 := y0
    have y1 : x4 ≤ A 1 0 := y1
    have hx3 : 0 < A 1 0 → 0 ≤ x3 ∧ x3 < A 1 0 := hx3
    have hX3 : IX A H h fl S L T M3 := hX3
    show jL_bar_L24 v K Φ (A 1 0) x3 x4 M3
    unfold jL_bar_L24
    refine ⟨fun _ => J51 x3 M3 hX3, fun q => ?_⟩
    have r3 := hx3 (by omega)
    refine barOf0_any hV hX3 x3 (fun _ => ⟨fun z => absurd z (by decide), fun _ => ⟨by omega, by omega, by omega, ?_⟩⟩) (fun s s0 s1 e => ⟨fun _ => J51 x3 M3 hX3, fun z => absurd (hv.lane s s0 s1).1 z⟩)
    rintro _ rfl
    refine ⟨by omega, ?_⟩
    rintro _ rfl
    exact hK (_, x4 + 1, M3) ⟨⟨by show 0 ≤ x4 + 1; omega, by show x4 + 1 ≤ A 1 0; omega⟩, fun p => ⟨Int.emod_nonneg _ (by omega), Int.emod_lt_of_pos _ p⟩, hX3⟩ (by show (A 1 0 - (x4 + 1)).toNat < (A 1 0 - x4).toNat; omega)
  exact ⟨fun q => low_ok (by omega) (fun r r0 r1 => J20 r (fun _ => ⟨r0, r1⟩)), fun q => J20 (-1) (fun z => by omega)⟩
theorem larrow_ok (hV : VS B A H h fl S L T) (hX : IX A H h fl S L T M) (v : Int) (k : ∀ r M', IX A H h fl S L T M' → (r = -1 ∨ ∃ s, 0 ≤ s ∧ s < A 6 0 ∧ A 8 s = r) → Φ r M') : jL_arrow v M Φ := by
  have hv := hV.1
  have he := hv.aever
  have hn := hv.a
  have nn : ∀ s, 0 ≤ s → s < A 6 0 → 0 ≤ A 2 (A 9 s) := fun s s0 s1 => (hv.num _ (hv.from s s0 s1).1 (hv.from s s0 s1).2).1
  unfold jL_arrow
  refine count11_one hV hX (fun M2 hX2 => ?_)
  have J51 : ∀ x M', IX A H h fl S L T M' → jL_arrow_J51 v Φ (A 7 0) x M' := by
    intro x M' hX'
    unfold jL_arrow_J51
    exact ⟨fun _ => k _ M' hX' (Or.inl rfl), fun _ => arrowOf0_any hV hX' x (fun _ => ⟨fun z => absurd z (by decide), fun _ => k _ M' hX' (Or.inl rfl)⟩) (fun s M5 s0 s1 e hX5 => ⟨fun _ => k _ M5 hX5 (Or.inr ⟨s, s0, s1, e⟩), fun z => absurd (nn s s0 s1) z⟩)⟩
  have J20 : ∀ x, (0 < A 7 0 → 0 ≤ x ∧ x < A 7 0) → jL_arrow_J20 v Φ (A 7 0) x M2 := by
    intro x hx
    unfold jL_arrow_J20
    refine zwh_run (fun s => (0 ≤ s.2.1 ∧ s.2.1 ≤ A 7 0) ∧ (0 < A 7 0 → 0 ≤ s.1 ∧ s.1 < A 7 0) ∧ IX A H h fl S L T s.2.2) (fun s => (A 7 0 - s.2.1).toNat) ?_ (x, 0, M2) ⟨⟨Int.le_refl 0, show (0 : Int) ≤ A 7 0 by omega⟩, hx, hX2⟩
    rintro K ⟨x3, x4, M3⟩ ⟨⟨y0, y1⟩, hx3, hX3⟩ hK
    have y0 : 0 ≤ x4 := y0
    have y1 : x4 ≤ A 7 0 := y1
    have hx3 : 0 < A 7 0 → 0 ≤ x3 ∧ x3 < A 7 0 := hx3
    have hX3 : IX A H h fl S L T M3 := hX3
    show jL_arrow_L24 v K Φ (A 7 0) x3 x4 M3
    unfold jL_arrow_L24
    refine ⟨fun _ => J51 x3 M3 hX3, fun q => ?_⟩
    have r3 := hx3 (by omega)
    refine arrowOf0_any hV hX3 x3 (fun _ => ⟨fun z => absurd z (by decide), fun _ => ⟨by omega, by omega, by omega, ?_⟩⟩) (fun s M5 s0 s1 e hX5 => ⟨fun _ => J51 x3 M5 hX5, fun z => absurd (nn s s0 s1) z⟩)
    rintro _ rfl
    refine ⟨by omega, ?_⟩
    rintro _ rfl
    exact hK (_, x4 + 1, M3) ⟨⟨by show 0 ≤ x4 + 1; omega, by show x4 + 1 ≤ A 7 0; omega⟩, fun p => ⟨Int.emod_nonneg _ (by omega), Int.emod_lt_of_pos _ p⟩, hX3⟩ (by show (A 7 0 - (x4 + 1)).toNat < (A 7 0 - x4).toNat; omega)
  exact ⟨fun q => low_ok (by omega) (fun r r0 r1 => J20 r (fun _ => ⟨r0, r1⟩)), fun q => J20 (-1) (fun z => by omega)⟩
theorem does_ok (hB : B ≤ 2000000000) (hV : VS B A H h fl S L T) (hX : IX A H h fl S L T M) (v : Int) (k : ∀ r M', PX (B + 6000) M' → Φ r M') : jL_does v M Φ := by
  unfold jL_does
  refine lbar_ok hV hX _ (fun r1 M2 hX2 _ => lbar_ok hV hX2 _ (fun r3 M4 hX4 _ => ?_))
  have kk : ∀ r M', PX B M' → Φ r M' := fun r M' hp => k r M' (hp.up (by omega))
  have stay : ∀ r M', IX A H h fl S L T M' → Φ r M' := fun r M' hX' => kk r M' ⟨_, _, _, _, _, _, _, hV, hX'⟩
  have pp : ∀ M', IX A H h fl S L T M' → PX B M' := fun M' hX' => ⟨_, _, _, _, _, _, _, hV, hX'⟩
  have cbar : jB_count 0 M4 (fun r5 M6 => (r5 ≤ 9 → jL_low (zshr v 4) 5 M6 (fun r7 => jL_low (zshr v 6) 40 M6 (fun r9 => jL_low (zshr v 9) 8 M6 (fun r11 => i32 (1 + r11) ∧ jB_bar r7 r9 (1 + r11) M6 (fun r14 M15 => Φ r14 M15))))) ∧ (¬ (r5 ≤ 9) → Φ 0 M6)) :=
    count0_one hV hX4 (fun M6 hX6 => ⟨fun _ => low_ok (by decide) (fun r7 _ _ => low_ok (by decide) (fun r9 _ _ => low_ok (by decide) (fun r11 a c => ⟨by omega, bar_one (pp M6 hX6) _ _ _ kk⟩))), fun _ => stay _ M6 hX6⟩)
  have carr : (r1 < 0 → jL_does_J156 v Φ M4) ∧ (¬ (r1 < 0) → jB_count 1 M4 (fun r41 M42 => (r41 ≤ 11 → jB_arrow r1 r3 M42 (fun r43 M44 => Φ r43 M44)) ∧ (¬ (r41 ≤ 11) → jL_does_J156 v Φ M42))) :=
    ⟨fun _ => stay _ M4 hX4, fun _ => count1_one hV hX4 (fun M6 hX6 => ⟨fun _ => arrow_one (pp M6 hX6) _ _ kk, fun _ => stay _ M6 hX6⟩)⟩
  have cmov : (0 ≤ r1 → jL_low (zshr v 5) 5 M4 (fun r59 => jL_low (zshr v 7) 50 M4 (fun r61 => jB_move r1 r59 r61 M4 (fun r63 M64 => Φ r63 M64)))) ∧ (¬ (0 ≤ r1) → Φ 0 M4) :=
    ⟨fun _ => low_ok (by decide) (fun r59 _ _ => low_ok (by decide) (fun r61 a c => move_one hV hX4 _ _ _ (by omega) (fun r M' _ hX' _ => stay r M' hX') (fun s M' _ _ _ _ hV' hX' => kk _ M' ⟨_, _, _, _, _, _, _, hV', hX'⟩))), fun _ => stay _ M4 hX4⟩
  have cslp : (0 ≤ r1 → jL_low (zshr v 8) 12 M4 (fun r82 => i32 (1 + r82) ∧ jB_slip r1 (1 + r82) M4 (fun r85 M86 => Φ r85 M86))) ∧ (¬ (0 ≤ r1) → Φ 0 M4) :=
    ⟨fun _ => low_ok (by decide) (fun r82 a c => ⟨by omega, slip_one hB hV hX4 _ _ (fun r M' _ hX' _ => stay r M' hX') (fun s D M' _ _ _ _ _ _ _ hV' hX' => k _ M' ⟨_, _, _, _, _, _, _, hV', hX'⟩)⟩), fun _ => stay _ M4 hX4⟩
  have ctak : jL_does_J363 v Φ M4 := by
    unfold jL_does_J363
    exact count1_one hV hX4 (fun M6 hX6 => ⟨fun _ => stay _ M6 hX6, fun _ => larrow_ok hV hX6 _ (fun r M7 hX7 _ => takeArrow_one (pp M7 hX7) _ kk)⟩)
  refine ⟨fun _ => cbar, fun _ => ⟨fun _ => cbar, fun _ => ⟨fun _ => cbar, fun _ => ⟨fun _ => carr, fun _ => ⟨fun _ => carr, fun _ => ⟨fun _ => carr, fun _ => ⟨fun _ => cmov, fun _ => ⟨fun _ => cmov, fun _ => ⟨fun _ => ?_, fun _ => ⟨fun _ => ?_, fun _ => ⟨fun _ => cslp, fun _ => ⟨fun _ => cslp, fun _ => ⟨fun _ => ?_, fun _ => ⟨fun _ => ?_, fun _ => ⟨fun _ => ?_, fun _ => ?_⟩⟩⟩⟩⟩⟩⟩⟩⟩⟩⟩⟩⟩⟩⟩
  · exact low_ok (by decide) (fun r73 _ _ => low_ok (by decide) (fun r75 _ _ => swap_one hV hX4 _ _ (fun r _ _ => stay r M4 hX4) (fun M' _ hV' hX' => kk _ M' ⟨_, _, _, _, _, _, _, hV', hX'⟩)))
  · exact ⟨fun _ => stay _ M4 hX4, fun _ => pack_one (pp M4 hX4) kk⟩
  · exact ⟨fun _ => pull_one hV hX4 _ (fun r M' _ hX' _ => stay r M' hX') (fun s M' _ _ _ _ hV' hX' => kk _ M' ⟨_, _, _, _, _, _, _, hV', hX'⟩), fun _ => stay _ M4 hX4⟩
  · exact low_ok (by decide) (fun r97 _ _ => low_ok (by decide) (fun r99 _ _ => ⟨by omega, low_ok (by decide) (fun r102 _ _ => ⟨by omega, width_one (pp M4 hX4) _ _ _ kk⟩)⟩))
  · refine ⟨fun _ => low_ok (by decide) (fun r107 _ _ => ⟨by omega, ?_⟩), fun _ => low_ok (by decide) (fun r112 _ _ => ?_)⟩
    · unfold jL_does_J347; exact set_one (pp M4 hX4) _ _ kk
    · unfold jL_does_J347; exact set_one (pp M4 hX4) _ _ kk
  · exact ⟨fun _ => ctak, fun _ => ⟨fun _ => count0_one hV hX4 (fun M6 hX6 => ⟨fun _ => stay _ M6 hX6, fun _ => takeBar_one (pp M6 hX6) _ kk⟩), fun _ => ctak⟩⟩
end AC
