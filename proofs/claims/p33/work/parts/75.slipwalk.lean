/-! a bar slips as is told, and back: the walk -/
section AC
variable {A A' S : zA} {H : Int → zA} {h fl L B : Int} {T : Int → Int} {M M2 : zM} {b : Nat} {Φ : Int → zM → Prop}
theorem barOf1_at (hV : VS B A H h fl S L T) (hX : IX A H h fl S L T M) {s p : Int} (s0 : 0 ≤ s) (s1 : s < A 0 0) (e : A 2 s = p) (k : ∀ M', IX A H h fl S L T M' → Φ (A 4 s) M') : jB_barOf p 1 M Φ := by
  subst e
  exact barOf1_one hV hX s0 s1 k
theorem slipSo_275 {p x6 x8 left : Int} (hV : VS B A H h fl S L T) (hX : IX A H h fl S L T M) {s : Int} (s0 : 0 ≤ s) (s1 : s < A 0 0) (e : A 2 s = p) (e6 : x6 = A 4 s) (e8 : x8 = A 13 0) (l0 : 0 ≤ left) (k : ∀ M', IX A H h fl S L T M' → Φ 1 M') : jL_isSlipSo_J275 p Φ x6 x8 1 left M := by
  subst e6; subst e8
  unfold jL_isSlipSo_J275
  exact ⟨fun z => absurd z (by decide), fun _ => ⟨fun z => by omega, fun _ => barOf1_at hV hX s0 s1 e (fun M3 hX3 => ⟨fun z => absurd rfl z, fun _ => count12_one hV hX3 (fun M5 hX5 => ⟨fun z => absurd rfl z, fun _ => k M5 hX5⟩)⟩)⟩⟩
theorem slipSo_195 {p d : Int} (hB : B ≤ 2000000000) (hv : Val B A) (hh : 0 ≤ h ∧ h ≤ 4) {s : Int} (s0 : 0 ≤ s) (s1 : s < A 0 0) (e : A 2 s = p) (d0 : 1 ≤ d) (d1 : d ≤ 30) {D : Int → Int} (hD : SlipP A s d D) (hV : VS B (slipA A D) (hsH A H h) (hsN h) fl S L T) (hX : IX (slipA A D) (hsH A H h) (hsN h) fl S L T M) (k : ∀ H' h' M', VS B A H' h' fl S L T → IX A H' h' fl S L T M' → Φ 1 M') : jL_isSlipSo_J195 p Φ d (A 4 s) (A 13 0) 1 M := by
  have hv1 := hV.1
  have n1 : slipA A D 0 0 = A 0 0 := slipA_o (by decide) (by decide)
  have p1 : ∀ j, slipA A D 2 j = A 2 j := fun j => slipA_o (by decide) (by decide)
  have own := slip_own hv s0 s1 d0 hD
  have d4 : slipA A D 4 s = A 4 s + d := by rw [slipA_4 s0 s1]; exact own
  have ds := hv.day s s0 s1
  have s1' : s < slipA A D 0 0 := by rw [n1]; exact s1
  have er := ear_rng hv1 s0 s1'
  have hp : 0 < hsN h := (hs_two A A H hh).2.1
  have same : ∀ s', 0 ≤ s' → s' < slipA A D 0 0 → slipA A D 2 s' = p → s' = s := fun s' a c q => by
    rw [n1] at c
    rw [p1 s'] at q
    exact hv.uniq a c s0 s1 (q.trans e.symm)
  -- nothing was pulled: one act is undone
  have back1 : ∀ M', IX (slipA A D) (hsH A H h) (hsN h) fl S L T M' → jL_isSlipSo_J253 p Φ (A 4 s) (A 13 0) (-5) 1 M' := by
    intro M' hX'
    unfold jL_isSlipSo_J253
    refine undo_one hV hX' (fun z => by omega) (fun _ M3 hV3 hX3 => ?_)
    rw [hs_last] at hV3 hX3
    exact ⟨fun _ => slipSo_275 hV3 hX3 s0 s1 e rfl rfl (by omega) (fun M5 hX5 => k _ _ M5 hV3 hX5), fun z => absurd (by decide) z⟩
  have back2 : ∀ q M', 0 < q → VS B (pulA (slipA A D) s) (hsH (slipA A D) (hsH A H h) (hsN h)) (hsN (hsN h)) fl S L T → IX (pulA (slipA A D) s) (hsH (slipA A D) (hsH A H h) (hsN h)) (hsN (hsN h)) fl S L T M' → jL_isSlipSo_J253 p Φ (A 4 s) (A 13 0) q 1 M' := by
    intro q M' q0 hV' hX'
    have two := hs_two A (slipA A D) H hh
    unfold jL_isSlipSo_J253
    refine undo_one hV' hX' (fun z => by omega) (fun _ M3 hV3 hX3 => ?_)
    rw [hs_last] at hV3 hX3
    refine ⟨fun z => by omega, fun _ => ?_⟩
    refine undo_one hV3 hX3 (fun z => by omega) (fun _ M5 hV5 hX5 => ?_)
    rw [two.1] at hV5 hX5
    exact slipSo_275 hV5 hX5 s0 s1 e rfl rfl (by omega) (fun M7 hX7 => k _ _ M7 hV5 hX7)
  unfold jL_isSlipSo_J195
  refine pull_one hV hX p (fun r M' r0 hX' hr => ?_) (fun s' M' a c q lt hV' hX' => ?_)
  · have r5 := hr s s0 s1' ((p1 s).trans e)
    refine ⟨fun z => absurd z (by decide), fun _ => ⟨fun _ => ?_, fun z => by omega⟩⟩
    rw [r5.1]
    unfold jL_isSlipSo_J231
    refine ⟨fun z => absurd rfl z, fun _ => ?_⟩
    unfold jL_isSlipSo_J238
    refine pull_one hV hX' p (fun r2 M3 _ hX3 hr2 => ?_) (fun s' M3 a c q lt _ _ => ?_)
    · have r52 := hr2 s s0 s1' ((p1 s).trans e)
      rw [r52.1]
      exact ⟨fun z => absurd rfl z, fun _ => back1 M3 hX3⟩
    · have es := same s' a c q
      subst es
      omega
  · have es := same s' a c q
    subst es
    refine ⟨fun z => absurd z (by decide), fun _ => ⟨fun z => by omega, fun q0 => ?_⟩⟩
    have e' : pulA (slipA A D) s' 2 s' = p := q
    have n2 : s' < pulA (slipA A D) s' 0 0 := c
    have f4 : pulA (slipA A D) s' 4 s' = earA (slipA A D) s' := by show (if s' = s' then earA (slipA A D) s' else slipA A D 4 s') = earA (slipA A D) s'; rw [if_pos rfl]
    have d2 := (hv1.day s' s0 s1')
    refine barOf1_at hV' hX' s0 n2 e' (fun M3 hX3 => ⟨by omega, by omega, fun _ => ?_, fun z => absurd (by omega) z⟩)
    unfold jL_isSlipSo_J238
    refine pull_one hV' hX3 p (fun r2 M5 _ hX5 hr2 => ?_) (fun s2 M5 a2 c2 q2 lt2 _ _ => ?_)
    · have r52 := hr2 s' s0 n2 e'
      rw [r52.1]
      exact ⟨fun z => absurd rfl z, fun _ => back2 _ M5 (by omega) hV' hX5⟩
    · have es2 : s2 = s' := same s2 a2 c2 q2
      subst es2
      have := pulA_ear hv1 s0 s1'
      omega
theorem slipSo_36 {p x2 d : Int} (hB : B + 6000 ≤ 2000000000) (hV : VS B A H h fl S L T) (hX : IX A H h fl S L T M) {s : Int} (s0 : 0 ≤ s) (s1 : s < A 0 0) (e : A 2 s = p) (e2 : x2 = gEnd A) {x3 : Int} (hE : LateP A (gEnd A) (latA A)) (e3 : x3 = latA A s - A 4 s) (d0 : 1 ≤ d) (d1 : d ≤ 30) (k : ∀ H' h' M', VS (B + 6000) A H' h' fl S L T → IX A H' h' fl S L T M' → Φ 1 M') : jL_isSlipSo_J36 p Φ x2 x3 d M := by
  have hv := hV.1
  have ds := hv.day s s0 s1
  have sl := hv.slip
  have hb : B ≤ 2000000000 := by omega
  subst e
  unfold jL_isSlipSo_J36
  refine ifSlipped_one hV hX s0 s1 d0 d1 (fun D M3 hD hX3 => barOf1_one hV hX3 s0 s1 (fun M5 hX5 => count4_one hV hX5 (fun M7 hX7 => count12_one hV hX7 (fun M9 hX9 => ?_))))
  have same : ∀ s', 0 ≤ s' → s' < A 0 0 → A 2 s' = A 2 s → s' = s := fun s' a c q => hv.uniq a c s0 s1 q
  refine slip_one hb hV hX9 (A 2 s) d (fun r M' r0 hX' hr => ?_) (fun s' D2 M' a c q _ _ hD2 hg hV' hX' => ?_)
  · obtain ⟨r4, D2, hD2, hg⟩ := hr s s0 s1 rfl d0 d1
    have eg : mxI (fun j => D j + A 5 j) (A 0 0) = mxI (fun j => D2 j + A 5 j) (A 0 0) := mxI_congr (fun j j0 j1 => by rw [slip_uniq hv hD hD2 j0 j1])
    rw [eg]
    refine ⟨fun z => absurd z hg, fun _ => ⟨fun z => absurd r4 z, fun _ => barOf1_one hV hX' s0 s1 (fun M11 hX11 => ⟨fun z => absurd rfl z, fun _ => ?_⟩)⟩⟩
    exact k _ _ M11 (hV.up (by omega)) hX11
  · have es := same s' a c q
    subst es
    have eg : mxI (fun j => D j + A 5 j) (A 0 0) = mxI (fun j => D2 j + A 5 j) (A 0 0) := mxI_congr (fun j j0 j1 => by rw [slip_uniq hv hD hD2 j0 j1])
    have n1 : slipA A D2 0 0 = A 0 0 := slipA_o (by decide) (by decide)
    have mv := slip_moved hv s0 s1 d0 hD2
    have told := slip_told hv s0 s1 d0 hD2 hE
    have own := slip_own hv s0 s1 d0 hD2
    have lt := slip_late hv hD2
    have sn := slip_slidN hv s0 s1 d0 hD2
    rw [eg]
    refine ⟨fun _ => ⟨fun z => by omega, fun _ => ?_⟩, fun z => absurd hg z⟩
    refine count6_one hV' hX' (fun M11 hX11 => ⟨fun z => absurd (slip_gEnd D2) z, fun _ => ?_⟩)
    have j149 : ∀ x, jL_isSlipSo_J149 (A 2 s') Φ d (A 4 s') (lateN A) (A 13 0) x x M11 := by
      intro x
      unfold jL_isSlipSo_J149
      refine ⟨fun z => absurd rfl z, fun _ => barOf1_at hV' hX11 s0 (by rw [n1]; exact s1) (slipA_o (by decide) (by decide)) (fun M13 hX13 => ?_)⟩
      rw [slipA_4 s0 s1, own]
      refine ⟨by omega, fun z => absurd rfl z, fun _ => count4_one hV' hX13 (fun M15 hX15 => ⟨fun z => by omega, fun _ => count12_one hV' hX15 (fun M17 hX17 => ?_)⟩)⟩
      rw [slipA_13]
      refine ⟨by omega, fun z => by omega, fun _ => ?_⟩
      exact slipSo_195 (by omega) (hv.up (by omega)) hV.2.1 s0 s1 rfl d0 d1 hD2 hV' hX17 k
    have j138 : ∀ x, ((x = 1 ∧ d ≤ x3) ∨ (x = 0 ∧ x3 < d)) → jL_isSlipSo_J138 (A 2 s') Φ x3 d (A 4 s') (lateN A) (A 13 0) x M11 := by
      intro x hx
      unfold jL_isSlipSo_J138
      refine ⟨fun z => ?_, fun z => ?_⟩
      · rw [show x = 0 by omega]; exact j149 0
      · rw [show x = 1 by omega]; exact j149 1
    rw [e2]
    refine ⟨fun z => j138 0 (Or.inr ⟨rfl, ?_⟩), fun z => j138 1 (Or.inl ⟨rfl, ?_⟩)⟩
    · have : ¬ d ≤ latA A s' - A 4 s' := fun w => z (told.mpr w)
      omega
    · have := told.mp z
      omega
theorem slipSo_ok (hB : B + 6000 ≤ 2000000000) (hV : VS B A H h fl S L T) (hX : IX A H h fl S L T M) {s : Int} (s0 : 0 ≤ s) (s1 : s < A 0 0) (k : ∀ H' h' M', VS (B + 6000) A H' h' fl S L T → IX A H' h' fl S L T M' → Φ 1 M') : jL_isSlipSo (A 2 s) M Φ := by
  unfold jL_isSlipSo
  refine count6_one hV hX (fun M2 hX2 => barOf6_one hV hX2 s0 s1 (fun M4 hX4 hE => ?_))
  exact ⟨fun q => ⟨fun q2 => slipSo_36 hB hV hX4 s0 s1 rfl rfl hE rfl q q2 k, fun q2 => slipSo_36 hB hV hX4 s0 s1 rfl rfl hE rfl (by decide) (by decide) k⟩, fun q => slipSo_36 hB hV hX4 s0 s1 rfl rfl hE rfl (by decide) (by decide) k⟩
end AC
