/-! the best swap, the best lane: the walk -/
section AC
variable {A A' S : zA} {H : Int → zA} {h fl L B : Int} {T : Int → Int} {M M2 : zM} {b : Nat} {Φ : Int → zM → Prop}
theorem bestSo_352 {v x5 x13 x14 x15 x16 : Int} (hV : VS B A H h fl S L T) (hX : IX A H h fl S L T M) {s : Int} (s0 : 0 ≤ s) (s1 : s < A 0 0) (e5 : x5 = undrA A) (e13 : x13 = (blI A s 12).1) (e14 : x14 = A 3 s) (e15 : x15 = A 4 s) (e16 : x16 = uL A s (blI A s 12).1) (k : ∀ H' h' M', VS B A H' h' fl S L T → IX A H' h' fl S L T M' → Φ 1 M') : jL_areBestSo_J352 (A 2 s) v Φ x5 1 x13 x14 x15 x16 M := by
  have hv := hV.1
  have ds := hv.day s s0 s1
  have bl := bl_is hv s0 s1
  subst e15
  unfold jL_areBestSo_J352
  refine zwh_run (fun t : Int × Int × zM => t.1 = 1 ∧ (0 ≤ t.2.1 ∧ t.2.1 ≤ 12) ∧ ∃ H' h', VS B A H' h' fl S L T ∧ IX A H' h' fl S L T t.2.2) (fun t => (12 - t.2.1).toNat) ?_ (1, 0, M) ⟨rfl, ⟨Int.le_refl 0, (show (0 : Int) ≤ 12 by decide)⟩, H, h, hV, hX⟩
  rintro K ⟨x11, x17, M3⟩ ⟨ex, ⟨y0, y1⟩, H', h', hV', hX'⟩ hK
  have ex : x11 = 1 := ex
  have y0 : 0 ≤ x17 := y0
  have y1 : x17 ≤ 12 := y1
  have hX' : IX A H' h' fl S L T M3 := hX'
  subst ex
  show jL_areBestSo_L355 (A 2 s) v K Φ x5 x13 x14 (A 4 s) x16 1 x17 M3
  unfold jL_areBestSo_L355
  have nx : x17 < 12 → ∀ H2 h2 M', VS B A H2 h2 fl S L T → IX A H2 h2 fl S L T M' → K (1, x17 + 1, M') := fun lt H2 h2 M' a c => hK (1, x17 + 1, M') ⟨rfl, ⟨by show 0 ≤ x17 + 1; omega, by show x17 + 1 ≤ 12; omega⟩, H2, h2, a, c⟩ (by show (12 - (x17 + 1)).toNat < (12 - x17).toNat; omega)
  refine ⟨fun q => ⟨fun z => absurd z (by decide), fun _ => barOf0_one hV' hX' s0 s1 (fun M5 hX5 => ⟨fun z => absurd e14.symm z, fun _ => count3_one hV' hX5 (fun M7 hX7 => ⟨fun z => absurd e5.symm z, fun _ => k _ _ M7 hV' hX7⟩)⟩)⟩, fun q => ?_⟩
  refine move_one hV' hX' (A 2 s) x17 (A 4 s) (by omega) (fun r M5 r0 hX5 _ => ⟨fun _ => ⟨by omega, ?_⟩, fun z => by omega⟩) (fun s' M5 a c qq ho hV5 hX5 => ?_)
  · rintro _ rfl
    exact nx (by omega) _ _ M5 hV' hX5
  · have es : s' = s := hv.uniq a c s0 s1 qq
    subst es
    have hh := hV'.2.1
    have hp : 0 < hsN h' := (hs_two A A H' hh).2.1
    have ur := undr_rng hV5.1
    have mn := bl.2.2 x17 y0 (by omega) ho.2.2.2
    have eu : uL A s' x17 = undrA (movA A s' x17 (A 4 s')) := rfl
    rw [eu] at mn
    have j404 : jL_areBestSo_J404 (A 2 s') v K Φ x5 x13 x14 (A 4 s') x16 x17 M5 := by
      unfold jL_areBestSo_J404 jL_areBestSo_J409
      refine undo_one hV5 hX5 (fun z => by omega) (fun _ M6 hV6 hX6 => ?_)
      rw [hs_last] at hV6 hX6
      refine ⟨by omega, ?_⟩
      rintro _ rfl
      exact nx (by omega) _ _ M6 hV6 hX6
    exact ⟨fun z => by omega, fun _ => ⟨fun z => absurd z (by decide), fun _ => ⟨fun z => j404, fun z => ⟨fun z2 => by omega, fun z2 => ⟨fun z3 => by omega, fun _ => j404⟩⟩⟩⟩⟩
theorem bestSo_259 {v x5 : Int} (hV : VS B A H h fl S L T) (hX : IX A H h fl S L T M) {s : Int} (s0 : 0 ≤ s) (s1 : s < A 0 0) (e5 : x5 = undrA A) (k : ∀ H' h' M', VS B A H' h' fl S L T → IX A H' h' fl S L T M' → Φ 1 M') : jL_areBestSo_J259 (A 2 s) v Φ x5 1 M := by
  have hv := hV.1
  have ds := hv.day s s0 s1
  have ls := hv.lane s s0 s1
  have bl := bl_is hv s0 s1
  have uo := uL_own A s
  unfold jL_areBestSo_J259
  refine bestLane_one hV hX s0 s1 (fun M2 hX2 => barOf0_one hV hX2 s0 s1 (fun M4 hX4 => barOf1_one hV hX4 s0 s1 (fun M6 hX6 => ⟨fun q => ?_, fun q => ?_⟩)))
  · exact bestSo_352 hV hX6 s0 s1 e5 rfl rfl rfl (by rw [q, uo]; exact e5) k
  · have ok : okMove A s (blI A s 12).1 (A 4 s) := ⟨bl.1, ⟨by omega, by omega⟩, fun z => q z.1.symm, bl.2.1⟩
    refine move_one hV hX6 (A 2 s) _ (A 4 s) (by omega) (fun r M5 r0 hX5 hno => absurd ok (hno s s0 s1 rfl)) (fun s' M5 a c qq ho hV5 hX5 => ?_)
    have es : s' = s := hv.uniq a c s0 s1 qq
    subst es
    have hh := hV.2.1
    have hp : 0 < hsN h := (hs_two A A H hh).2.1
    have ur := undr_rng hV5.1
    have mn := bl.2.2 (A 3 s') ls.1 ls.2 (frL_own hv s0 s1)
    have eu : uL A s' (blI A s' 12).1 = undrA (movA A s' (blI A s' 12).1 (A 4 s')) := rfl
    rw [uo, eu] at mn
    have j339 : jL_areBestSo_J339 (A 2 s') v Φ x5 (blI A s' 12).1 (A 3 s') (A 4 s') (undrA (movA A s' (blI A s' 12).1 (A 4 s'))) M5 := by
      unfold jL_areBestSo_J339 jL_areBestSo_J344
      refine undo_one hV5 hX5 (fun z => by omega) (fun _ M7 hV7 hX7 => ?_)
      rw [hs_last] at hV7 hX7
      exact bestSo_352 hV7 hX7 s0 s1 e5 rfl rfl rfl rfl k
    exact ⟨fun z => absurd z (by decide), fun _ => ⟨fun z => by omega, fun _ => ⟨fun z => j339, fun z => ⟨fun z2 => by omega, fun z2 => ⟨fun z3 => by omega, fun _ => j339⟩⟩⟩⟩⟩
def bsH (A : zA) (x3 x4 x7 x8 : Int) : Prop := ((bsI A 144).1 = -5 ∧ x3 = -5 ∧ x7 = undrA A ∧ x8 = ptsA A) ∨ (0 ≤ (bsI A 144).1 ∧ x3 = (bsI A 144).1 / 12 ∧ x4 = (bsI A 144).1 % 12 ∧ x7 = (bsI A 144).2.1 ∧ x8 = (bsI A 144).2.2)
theorem bsH_78 {x3 x4 x7 x8 : Int} (hb : bsH A x3 x4 x7 x8) : x7 = (bsI A 144).2.1 ∧ x8 = (bsI A 144).2.2 := by
  rcases hb with ⟨z, _, e7, e8⟩ | ⟨_, _, _, e7, e8⟩
  · have n := bs_none z
    rw [n.1, n.2]; exact ⟨e7, e8⟩
  · exact ⟨e7, e8⟩
theorem bestSo_205 {v x3 x4 x5 x7 x8 : Int} (hV : VS B A H h fl S L T) (hX : IX A H h fl S L T M) {s : Int} (s0 : 0 ≤ s) (s1 : s < A 0 0) (e5 : x5 = undrA A) (hb : bsH A x3 x4 x7 x8) (k : ∀ H' h' M', VS B A H' h' fl S L T → IX A H' h' fl S L T M' → Φ 1 M') : jL_areBestSo_J205 (A 2 s) v Φ x3 x4 x5 x7 x8 1 M := by
  have hh := hV.2.1
  have hp : 0 < hsN h := (hs_two A A H hh).2.1
  unfold jL_areBestSo_J205
  refine ⟨fun _ => bestSo_259 hV hX s0 s1 e5 k, fun q => ?_⟩
  rcases hb with ⟨_, z, _⟩ | ⟨z0, e3, e4, e7, e8⟩
  · omega
  have is := bs_is z0
  rw [← e3, ← e4, ← e7, ← e8] at is
  refine swap_one hV hX x3 x4 (fun r r0 hno => absurd is.1 hno) (fun M' ho hV' hX' => ?_)
  refine ⟨fun z => absurd z (by decide), fun _ => ⟨fun z => absurd is.2.2.1 z, fun _ => count5_one hV' hX' (fun M3 hX3 => ⟨fun z => absurd is.2.2.2.1 z, fun _ => ⟨fun z => by omega, fun _ => ?_⟩⟩)⟩⟩
  unfold jL_areBestSo_J251
  refine undo_one hV' hX3 (fun z => by omega) (fun _ M5 hV5 hX5 => ?_)
  rw [hs_last] at hV5 hX5
  exact bestSo_259 hV5 hX5 s0 s1 e5 k
theorem bestSo_107 {v x3 x4 x5 x6 x7 x8 x9 x10 : Int} (hV : VS B A H h fl S L T) (hX : IX A H h fl S L T M) {s : Int} (s0 : 0 ≤ s) (s1 : s < A 0 0) (e5 : x5 = undrA A) (e6 : x6 = ptsA A) (hb : bsH A x3 x4 x7 x8) (k : ∀ H' h' M', VS B A H' h' fl S L T → IX A H' h' fl S L T M' → Φ 1 M') : jL_areBestSo_J107 (A 2 s) v Φ x3 x4 x5 x6 x7 x8 x9 x10 1 M := by
  have hh := hV.2.1
  have e78 := bsH_78 hb
  unfold jL_areBestSo_J107
  refine swap_one hV hX x9 x10 (fun r r0 _ => ⟨fun _ => bestSo_205 hV hX s0 s1 e5 hb k, fun z => absurd r0 z⟩) (fun M' ho hV' hX' => ?_)
  have ur := undr_rng hV'.1
  have mn := bs_min ho
  rw [← e78.1, ← e78.2] at mn
  unfold bet at mn
  have two := hs_two A (swpA A x9 x10) H hh
  have eA : swpA (swpA A x9 x10) x10 x9 = A := by rw [swpA_comm (swpA A x9 x10) x10 x9, swp_swp]
  have ok2 : okSwap (swpA A x9 x10) x10 x9 := ⟨⟨ho.1.2, ho.1.1⟩, fun z => ho.2.1 z.symm, swpA_laned ho.2.2⟩
  have j163 : ∀ M3, IX (swpA A x9 x10) (hsH A H h) (hsN h) fl S L T M3 → jL_areBestSo_J163 (A 2 s) v Φ x3 x4 x5 x6 x7 x8 x9 x10 M3 := by
    intro M3 hX3
    unfold jL_areBestSo_J163
    refine swap_one hV' hX3 x10 x9 (fun r _ hno => absurd ok2 hno) (fun M5 _ hV5 hX5 => ?_)
    rw [eA] at hV5 hX5 ⊢
    refine ⟨fun z => absurd e5.symm z, fun _ => count5_one hV5 hX5 (fun M7 hX7 => ⟨fun z => absurd e6.symm z, fun _ => ?_⟩)⟩
    unfold jL_areBestSo_J191
    refine undo_one hV5 hX7 (fun z => by omega) (fun _ M9 hV9 hX9 => ?_)
    rw [hs_last] at hV9 hX9
    refine undo_one hV9 hX9 (fun z => by omega) (fun _ M11 hV11 hX11 => ?_)
    rw [two.1] at hV11 hX11
    exact bestSo_205 hV11 hX11 s0 s1 e5 hb k
  refine ⟨fun z => by omega, fun _ => ⟨fun z => absurd z (by decide), fun _ => count3_one hV' hX' (fun M3 hX3 => ⟨fun z => absurd rfl z, fun _ => ⟨fun z => j163 M3 hX3, fun z => ⟨fun z2 => by omega, fun z2 => count5_one hV' hX3 (fun M5 hX5 => ⟨fun z3 => by omega, fun _ => j163 M5 hX5⟩)⟩⟩⟩)⟩⟩
theorem bestSo_57 {v x3 x4 x5 x6 x7 x8 : Int} (hV : VS B A H h fl S L T) (hX : IX A H h fl S L T M) {s : Int} (s0 : 0 ≤ s) (s1 : s < A 0 0) (e5 : x5 = undrA A) (e6 : x6 = ptsA A) (hb : bsH A x3 x4 x7 x8) (k : ∀ H' h' M', VS B A H' h' fl S L T → IX A H' h' fl S L T M' → Φ 1 M') : jL_areBestSo_J57 (A 2 s) v Φ x3 x4 x5 x6 x7 x8 M := by
  unfold jL_areBestSo_J57 jL_areBestSo_J102
  refine low_ok (by decide) (fun r13 _ _ => low_ok (by decide) (fun r15 _ _ => ?_))
  have go := bestSo_107 (v := v) (x9 := r13) (x10 := r15) hV hX s0 s1 e5 e6 hb k
  refine ⟨fun _ => go, fun q => ?_⟩
  have bt : bet x5 x6 x7 x8 := by
    rcases hb with ⟨_, z, _⟩ | ⟨z0, e3, e4, e7, e8⟩
    · omega
    · rw [e5, e6, e7, e8]; exact (bs_is z0).2.2.2.2
  unfold bet at bt
  exact ⟨fun _ => go, fun q1 => ⟨fun q2 => by omega, fun q2 => ⟨fun q3 => by omega, fun _ => go⟩⟩⟩
theorem bestSo_ok (hV : VS B A H h fl S L T) (hX : IX A H h fl S L T M) {s : Int} (s0 : 0 ≤ s) (s1 : s < A 0 0) (v : Int) (k : ∀ H' h' M', VS B A H' h' fl S L T → IX A H' h' fl S L T M' → Φ 1 M') : jL_areBestSo (A 2 s) v M Φ := by
  unfold jL_areBestSo
  refine bestSwap_one hV hX (by decide) (by decide) (fun r1 M2 hX2 h1 => bestSwap_one hV hX2 (by decide) (by decide) (fun r3 M4 hX4 h3 => count3_one hV hX4 (fun M6 hX6 => count5_one hV hX6 (fun M8 hX8 => ?_))))
  have j41 : ∀ x7 M', IX A H h fl S L T M' → (0 ≤ r1 → x7 = (bsI A 144).2.1) → (¬ 0 ≤ r1 → x7 = undrA A) → jL_areBestSo_J41 (A 2 s) v Φ r1 r3 (undrA A) (ptsA A) x7 M' := by
    intro x7 M' hX' a1 a2
    unfold jL_areBestSo_J41
    refine ⟨fun q => bestSwap_one hV hX' (by decide) (by decide) (fun r11 M12 hX12 h11 => bestSo_57 hV hX12 s0 s1 rfl rfl (Or.inr ?_) k), fun q => bestSo_57 hV hX' s0 s1 rfl rfl (Or.inl ?_) k⟩
    · have := a1 q
      omega
    · have := a2 q
      omega
  refine ⟨fun q => bestSwap_one hV hX8 (by decide) (by decide) (fun r9 M10 hX10 h9 => j41 r9 M10 hX10 (fun _ => by omega) (fun z => absurd q z)), fun q => j41 _ M8 hX8 (fun z => absurd z q) (fun _ => rfl)⟩
end AC
