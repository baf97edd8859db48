/-! the acts: settings, widths, a new bar -/
def PI (B : Int) (Mx Mm : zM) : Prop := ∃ A H h fl S L T, VS B A H h fl S L T ∧ IX A H h fl S L T Mx ∧ IM A H h fl S L T Mm
theorem Val.up {B B' : Int} {A : zA} (hv : Val B A) (h : B ≤ B') : Val B' A := by
  have hs := hv.slip
  exact ⟨hv.1, hv.2.1, hv.2.2.1, hv.2.2.2.1, ⟨hs.1, by omega⟩, hv.2.2.2.2.2⟩
theorem VS.up {B B' : Int} {A : zA} {H : Int → zA} {h fl : Int} {S : zA} {L : Int} {T : Int → Int} (hV : VS B A H h fl S L T) (hb : B ≤ B') : VS B' A H h fl S L T :=
  ⟨hV.1.up hb, hV.2.1, fun i i0 i1 => (hV.2.2.1 i i0 i1).up hb, hV.2.2.2.1, fun q => (hV.2.2.2.2.1 q).up hb, hV.2.2.2.2.2⟩
theorem PI.up {B B' : Int} {Mx Mm : zM} (hp : PI B Mx Mm) (hb : B ≤ B') : PI B' Mx Mm := by
  obtain ⟨A, H, h, fl, S, L, T, hV, hX, hM⟩ := hp
  exact ⟨A, H, h, fl, S, L, T, hV.up hb, hX, hM⟩
section AC
variable {A A' S : zA} {H : Int → zA} {h fl L B : Int} {T : Int → Int} {M M2 Mm Mx' : zM}
theorem IM.new (hI : IM A H h fl S L T Mm) (hq : ∀ q, q ≠ 1 → q ≠ 2 → q < 6 → M2 q = Mm q) (hr : RV A' (M2 1)) : IM A' H h fl S L T M2 := by
  obtain ⟨i1, i2, i3, i4, i5, i6, i7⟩ := hI
  exact ⟨hr, by rw [hq 0 (by omega) (by omega) (by omega)]; exact i2, fun i i0 q => by rw [hq 3 (by omega) (by omega) (by omega)]; exact i3 i i0 q, by rw [hq 0 (by omega) (by omega) (by omega)]; exact i4, fun q => by rw [hq 4 (by omega) (by omega) (by omega)]; exact i5 q, by rw [hq 0 (by omega) (by omega) (by omega)]; exact i6, fun i i0 q => by rw [hq 5 (by omega) (by omega) (by omega)]; exact i7 i i0 q⟩
theorem fin_ok (hV : VS B A H h fl S L T) (hI : IM A H h fl S L T Mm) (hq : ∀ q, q ≠ 1 → q ≠ 2 → q < 6 → M2 q = Mm q) (h2 : ∀ x, 0 ≤ x → x < 447 → M2 2 x = Mm 1 x) (hr : RV A' (M2 1)) (hv' : Val B A') {r : Int} (r0 : 0 ≤ r) (hX : IX A' (hsH A H h) (hsN h) fl S L T Mx') : jM_act r M2 (fun r' Mm' => r' = r ∧ PI B Mx' Mm') :=
  act_ok hV (hI.1.same hV.1 h2) (hI.new hq hr) r0 (fun Mm' hM => ⟨rfl, _, _, _, _, _, _, _, hV.push hv', hX, hM⟩)
theorem bad_ok (hV : VS B A H h fl S L T) (hI : IM A H h fl S L T Mm) (hq : ∀ q, q ≠ 1 → q ≠ 2 → q < 6 → M2 q = Mm q) (h2 : ∀ x, 0 ≤ x → x < 447 → M2 2 x = Mm 1 x) {r : Int} (r0 : r < 0) (hX : IX A H h fl S L T Mx') : jM_act r M2 (fun r' Mm' => r' = r ∧ PI B Mx' Mm') :=
  actBack_ok hV.1 (hI.1.same hV.1 h2) r0 (fun Mm' hs hr => ⟨rfl, _, _, _, _, _, _, _, hV, hX, hI.new (fun q q1 q2 q3 => (hs q q1).trans (hq q q1 q2 q3)) hr⟩)
theorem settleBad {r : Int} (r0 : r < 0) {Φ : Int → zM → Prop} (h : Φ r M) : jB_settle r M Φ := ⟨fun _ => h, fun q => absurd r0 q⟩
theorem isLane_ok {v : Int} {Φ : Int → Prop} (ht : 0 ≤ v → v < 12 → Φ 1) (hf : ¬ (0 ≤ v ∧ v < 12) → Φ 0) : jB_isLane v M Φ := ⟨fun q => hf (by omega), fun q => ⟨fun q2 => hf (by omega), fun q2 => ht (by omega) (by omega)⟩⟩
theorem isDay_ok {v : Int} {Φ : Int → Prop} (ht : 0 ≤ v → v < 200 → Φ 1) (hf : ¬ (0 ≤ v ∧ v < 200) → Φ 0) : jB_isDay v M Φ := ⟨fun q => hf (by omega), fun q => ⟨fun q2 => hf (by omega), fun q2 => ht (by omega) (by omega)⟩⟩
-- settings
def setA (A : zA) (a v : Int) : zA := fun k j => match k with | 12 => if j = a then v else A 12 j | k => A k j
def okSet (a v : Int) : Prop := (a = 0 ∧ 0 ≤ v ∧ v ≤ 2) ∨ (a = 1 ∧ 10 ≤ v ∧ v ≤ 999)
theorem setA_val (hv : Val B A) {a v : Int} (ho : okSet a v) : Val B (setA A a v) := by
  refine ⟨hv.1, hv.2.1, hv.2.2.1, hv.2.2.2.1, hv.2.2.2.2.1, hv.num, hv.numlt, hv.lane, hv.day, hv.apart, hv.anum, hv.anumlt, hv.from, hv.to, hv.wid, ?_, ?_⟩
  · show 0 ≤ (if 0 = a then v else A 12 0) ∧ (if 0 = a then v else A 12 0) ≤ 2
    have := hv.set0
    unfold okSet at ho
    by_cases e : 0 = a
    · simp only [if_pos e]; omega
    · simp only [if_neg e]; omega
  · show 10 ≤ (if 1 = a then v else A 12 1) ∧ (if 1 = a then v else A 12 1) ≤ 999
    have := hv.set1
    unfold okSet at ho
    by_cases e : 1 = a
    · simp only [if_pos e]; omega
    · simp only [if_neg e]; omega
theorem isSetting_ok {a v : Int} {Φ : Int → Prop} (ht : okSet a v → Φ 1) (hf : ¬ okSet a v → Φ 0) : jB_isSetting a v M Φ := by
  unfold okSet at ht hf
  exact ⟨fun e => ⟨fun q => hf (by omega), fun q => ⟨fun q2 => hf (by omega), fun q2 => ht (by omega)⟩⟩, fun e => ⟨fun e2 => ⟨fun q => hf (by omega), fun q => ⟨fun q2 => hf (by omega), fun q2 => ht (by omega)⟩⟩, fun e2 => hf (by omega)⟩⟩
theorem sets_ok (hr : RV A (M 1)) {a v : Int} {Φ : Int → zM → Prop} (hbad : ¬ okSet a v → Φ (-2) M) (h : okSet a v → Φ (if A 12 a = v then -5 else A 12 a) (zup M 1 (442 + a) v)) : jM_sets a v M Φ := by
  have fin : ∀ lo hi, (lo ≤ v → v ≤ hi → 0 ≤ a → a < 2 → okSet a v) → (¬ (lo ≤ v ∧ v ≤ hi) → ¬ okSet a v) → 0 ≤ a → a < 2 → jM_sets_J31 a v Φ v lo hi M := by
    intro lo hi f1 f2 a0 a1
    unfold jM_sets_J31
    refine in_ok (fun l0 l1 => ⟨fun _ => ?_, fun z => absurd z (by decide)⟩) (fun z => ⟨fun y => absurd rfl y, fun _ => hbad (f2 z)⟩)
    rw [hr.set a a0 a1]
    refine ⟨by omega, by omega, by omega, ?_⟩
    rintro _ rfl
    refine ⟨by omega, by omega, by omega, ?_⟩
    rintro _ rfl
    have H := h (f1 l0 l1 a0 a1)
    exact ⟨fun q => by rw [if_neg q] at H; exact H, fun q => by rw [if_pos q] at H; exact H⟩
  unfold jM_sets
  refine in_ok (fun l0 l1 => ⟨fun z => absurd z (by decide), fun _ => ⟨fun e => ?_, fun e => ?_⟩⟩) (fun z => ⟨fun _ => hbad (by unfold okSet; omega), fun y => absurd rfl y⟩)
  · unfold jM_sets_J20
    exact ⟨fun _ => fin 10 999 (fun _ _ _ _ => by unfold okSet; omega) (fun _ => by unfold okSet; omega) l0 (by omega), fun e2 => absurd e2 e⟩
  · unfold jM_sets_J20
    exact ⟨fun e2 => absurd e e2, fun _ => fin 0 2 (fun _ _ _ _ => by unfold okSet; omega) (fun _ => by unfold okSet; omega) l0 (by omega)⟩
theorem setA_RV {σ σ' : Int → Int} (hr : RV A σ) {a v : Int} (a0 : 0 ≤ a) (a1 : a < 2) (hn : A 0 0 ≤ 30) (ha : A 6 0 ≤ 40) (h1 : ∀ k, k ≠ 442 + a → σ' k = σ k) (h2 : σ' (442 + a) = v) : RV (setA A a v) σ' := by
  refine ⟨(h1 _ (by omega)).trans hr.n, (h1 _ (by omega)).trans hr.ever, (h1 _ (by omega)).trans hr.a, (h1 _ (by omega)).trans hr.aever, (h1 _ (by omega)).trans hr.slip, fun j j0 j1 => ?_, fun j j0 j1 => ?_, fun j j0 j1 => ?_, fun j j0 j1 => ?_, fun j j0 j1 => ?_, fun j j0 j1 => ?_, fun j j0 j1 => ?_, fun j j0 j1 => ?_, fun j j0 j1 => ?_⟩
  · have j1 : j < A 0 0 := j1
    exact (h1 _ (by omega)).trans (hr.num j j0 j1)
  · have j1 : j < A 0 0 := j1
    exact (h1 _ (by omega)).trans (hr.lane j j0 j1)
  · have j1 : j < A 0 0 := j1
    exact (h1 _ (by omega)).trans (hr.first j j0 j1)
  · have j1 : j < A 0 0 := j1
    exact (h1 _ (by omega)).trans (hr.days j j0 j1)
  · have j1 : j < A 6 0 := j1
    exact (h1 _ (by omega)).trans (hr.anum j j0 j1)
  · have j1 : j < A 6 0 := j1
    exact (h1 _ (by omega)).trans (hr.from j j0 j1)
  · have j1 : j < A 6 0 := j1
    exact (h1 _ (by omega)).trans (hr.to j j0 j1)
  · exact (h1 _ (by omega)).trans (hr.wid j j0 j1)
  · show σ' (442 + j) = if j = a then v else A 12 j
    by_cases e : j = a
    · rw [if_pos e, e]; exact h2
    · rw [if_neg e]; exact (h1 _ (by omega)).trans (hr.set j j0 j1)
theorem set_pair {Mx : zM} (hp : PI B Mx Mm) (a v : Int) : jB_set a v Mx (fun r Mx' => jM_set a v Mm (fun r' Mm' => r' = r ∧ PI B Mx' Mm')) := by
  obtain ⟨A, H, h, fl, S, L, T, hV, hX, hM⟩ := hp
  have hv := hV.1
  have back : ∀ (Mx' : zM) (r : Int), r < 0 → IX A H h fl S L T Mx' → (okSet a v → r = -5 ∧ A 12 a = v) → (¬ okSet a v → r = -2) → jM_set a v Mm (fun r' Mm' => r' = r ∧ PI B Mx' Mm') := by
    intro Mx' r r0 hX' h5 h2
    unfold jM_set
    refine putAside_ok (fun M1 hs1 ha1 => sets_ok (by rw [hs1 1 (by omega)]; exact hM.1) (fun q => ?_) (fun q => ?_))
    · rw [h2 q] at *
      exact bad_ok hV hM (fun q q1 q2 _ => hs1 q q2) ha1 (by omega) hX'
    · have z := h5 q
      rw [if_pos z.2]
      rw [z.1]
      exact bad_ok hV hM (fun q q1 q2 _ => (zup_other q1).trans (hs1 q q2)) (fun x x0 x1 => by rw [zup_other (by omega)]; exact ha1 x x0 x1) (by omega) hX'
  unfold jB_set
  refine isSetting_ok (fun ho => ⟨fun _ => ?_, fun z => absurd z (by decide)⟩) (fun ho => ⟨fun z => absurd rfl z, fun _ => back Mx (-2) (by omega) hX (fun z => absurd z ho) (fun _ => rfl)⟩)
  have a0 : 0 ≤ a ∧ a < 2 := by unfold okSet at ho; omega
  refine ⟨a0.1, a0.2, ?_⟩
  rintro _ rfl
  have ca : Mx 9 a = A 12 a := hX.1.set a a0.1 a0.2
  rw [ca]
  refine ⟨fun q => ?_, fun q => back Mx (-5) (by omega) hX (fun _ => ⟨rfl, q⟩) (fun z => absurd ho z)⟩
  refine copyFrom_ok hv (Or.inr (by omega)) hX.1 (fun M1 hs hc => ⟨a0.1, a0.2, ?_⟩)
  rintro _ rfl
  have hc' : CV (setA A a v) (zup M1 19 a v) 10 := by
    refine ⟨?_, ?_, ?_, ?_, ?_, fun j j0 j1 => ?_, fun j j0 j1 => ?_, fun j j0 j1 => ?_, fun j j0 j1 => ?_, fun j j0 j1 => ?_, fun j j0 j1 => ?_, fun j j0 j1 => ?_, fun j j0 j1 => ?_, fun j j0 j1 => ?_⟩
    · rw [zup_other (by omega)]; exact hc.n
    · rw [zup_other (by omega)]; exact hc.ever
    · rw [zup_other (by omega)]; exact hc.a
    · rw [zup_other (by omega)]; exact hc.aever
    · rw [zup_other (by omega)]; exact hc.slip
    · rw [zup_other (by omega)]; exact hc.num j j0 j1
    · rw [zup_other (by omega)]; exact hc.lane j j0 j1
    · rw [zup_other (by omega)]; exact hc.first j j0 j1
    · rw [zup_other (by omega)]; exact hc.days j j0 j1
    · rw [zup_other (by omega)]; exact hc.anum j j0 j1
    · rw [zup_other (by omega)]; exact hc.from j j0 j1
    · rw [zup_other (by omega)]; exact hc.to j j0 j1
    · rw [zup_other (by omega)]; exact hc.wid j j0 j1
    · show zup M1 19 a v 19 j = if j = a then v else A 12 j
      by_cases e : j = a
      · rw [if_pos e, e, zup_at]
      · rw [if_neg e, zup_ne e]; exact hc.set j j0 j1
  have sv : 0 ≤ A 12 a := by
    have s0 := hv.set0
    have s1 := hv.set1
    rcases (show a = 0 ∨ a = 1 by omega) with e | e <;> subst e <;> omega
  have hs' : ∀ q, (q < 10 ∨ 20 ≤ q) → zup M1 19 a v q = Mx q := fun q hq => (zup_other (by omega)).trans (hs q (by omega))
  refine settle_ok hV (hX.same (fun q hq => hs' q (by omega)) (by rw [hs' 73 (by omega)]) (hs' 74 (by omega))) (setA_val hv ho) hc' sv (fun Mx' hX' => ?_)
  unfold jM_set
  refine putAside_ok (fun M2 hs1 ha1 => sets_ok (by rw [hs1 1 (by omega)]; exact hM.1) (fun z => absurd ho z) (fun _ => ?_))
  rw [if_neg q]
  exact fin_ok hV hM (fun q q1 q2 _ => (zup_other q1).trans (hs1 q q2)) (fun x x0 x1 => by rw [zup_other (by omega)]; exact ha1 x x0 x1) (setA_RV hM.1 a0.1 a0.2 hv.n.2 hv.a.2 (fun k hk => by rw [zup_ne hk, hs1 1 (by omega)]) (zup_at _ _ _ _)) (setA_val hv ho) sv hX'
end AC
