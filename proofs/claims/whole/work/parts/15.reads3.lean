/-! the reference's reads -/
section RM
variable {A : zA} {M : zM} {B : Int} {Φ : Int → Prop}
theorem in_ok {v lo hi : Int} (ht : lo ≤ v → v ≤ hi → Φ 1) (hf : ¬ (lo ≤ v ∧ v ≤ hi) → Φ 0) : jM_in v lo hi M Φ := ⟨fun q => hf (by omega), fun q => ⟨fun q2 => hf (by omega), fun q2 => ht (by omega) (by omega)⟩⟩
theorem isLaneM_ok {v : Int} (ht : 0 ≤ v → v < 12 → Φ 1) (hf : ¬ (0 ≤ v ∧ v < 12) → Φ 0) : jM_isLane v M Φ := in_ok (fun a c => ⟨Or.inr rfl, ht a (by omega)⟩) (fun a => ⟨Or.inl rfl, hf (by omega)⟩)
theorem least_ok {x y : Int} (h : Φ (min x y)) : jM_least x y M Φ := ⟨fun q => by rw [show min x y = y by omega] at h; exact h, fun q => by rw [show min x y = x by omega] at h; exact h⟩
theorem most_ok {x y : Int} (h : Φ (max x y)) : jM_most x y M Φ := ⟨fun q => by rw [show max x y = y by omega] at h; exact h, fun q => by rw [show max x y = x by omega] at h; exact h⟩
theorem isBetween_ok {w x y : Int} (ht : min x y < w → w < max x y → Φ 1) (hf : ¬ (min x y < w ∧ w < max x y) → Φ 0) : jM_isBetween w x y M Φ := least_ok ⟨fun q => hf (by omega), fun q => most_ok ⟨fun q2 => hf (by omega), fun q2 => ht (by omega) (by omega)⟩⟩
theorem of0_ok (hr : RV A (M 1)) (hv : Val B A) {i : Int} (h0 : 0 ≤ i) (h1 : i < A 0 0) (h : Φ (A 2 i)) : jM_of i 0 M Φ := by
  have hn := hv.n
  have c := hr.num i h0 h1
  unfold jM_of
  rw [c]
  exact ⟨by omega, by omega, by omega, by omega, by omega, h⟩
theorem of1_ok (hr : RV A (M 1)) (hv : Val B A) {i : Int} (h0 : 0 ≤ i) (h1 : i < A 0 0) (h : Φ (A 3 i)) : jM_of i 1 M Φ := by
  have hn := hv.n
  have c := hr.lane i h0 h1
  unfold jM_of
  rw [c]
  exact ⟨by omega, by omega, by omega, by omega, by omega, h⟩
theorem of2_ok (hr : RV A (M 1)) (hv : Val B A) {i : Int} (h0 : 0 ≤ i) (h1 : i < A 0 0) (h : Φ (A 4 i)) : jM_of i 2 M Φ := by
  have hn := hv.n
  have c := hr.first i h0 h1
  unfold jM_of
  rw [c]
  exact ⟨by omega, by omega, by omega, by omega, by omega, h⟩
theorem of3_ok (hr : RV A (M 1)) (hv : Val B A) {i : Int} (h0 : 0 ≤ i) (h1 : i < A 0 0) (h : Φ (A 5 i)) : jM_of i 3 M Φ := by
  have hn := hv.n
  have c := hr.days i h0 h1
  unfold jM_of
  rw [c]
  exact ⟨by omega, by omega, by omega, by omega, by omega, h⟩
theorem end_ok (hr : RV A (M 1)) (hv : Val B A) {i : Int} (h0 : 0 ≤ i) (h1 : i < A 0 0) (h : Φ (endA A i)) : jM_end i M Φ := by
  have v := hv.day i h0 h1
  exact of2_ok hr hv h0 h1 (of3_ok hr hv h0 h1 ⟨by omega, h⟩)
theorem find_ok (hr : RV A (M 1)) (hv : Val B A) {bar : Int} (ht : ∀ i, 0 ≤ i → i < A 0 0 → A 2 i = bar → Φ i) (hf : (∀ i, 0 ≤ i → i < A 0 0 → A 2 i ≠ bar) → Φ (-5)) : jM_find bar M Φ := by
  have hn := hv.n
  unfold jM_find
  refine zfor1 (fun x => ∀ i, 0 ≤ i → i < x → A 2 i ≠ bar) (n := A 0 0) hn.1 (fun j _ _ => by omega) (fun K hI => ?_) (fun K x x0 x1 hI hK => ?_)
  · unfold jM_find_L2
    rw [hr.n]
    exact ⟨fun _ => hf hI, fun q => absurd (Int.le_refl _) q⟩
  · unfold jM_find_L2
    rw [hr.n]
    exact ⟨fun q => by omega, fun q => of0_ok hr hv x0 x1 ⟨fun e => ⟨by omega, fun v hv => hv ▸ hK (fun j j0 j1 => if e2 : j = x then e2 ▸ e else hI j j0 (by omega))⟩, fun e => ht x x0 x1 e⟩⟩
theorem findArrow_ok (hr : RV A (M 1)) (hv : Val B A) {bar : Int} (ht : ∀ i, 0 ≤ i → i < A 6 0 → A 8 i = bar → Φ i) (hf : (∀ i, 0 ≤ i → i < A 6 0 → A 8 i ≠ bar) → Φ (-5)) : jM_findArrow bar M Φ := by
  have hn := hv.a
  unfold jM_findArrow
  refine zfor1 (fun x => ∀ i, 0 ≤ i → i < x → A 8 i ≠ bar) (n := A 6 0) hn.1 (fun j _ _ => by omega) (fun K hI => ?_) (fun K x x0 x1 hI hK => ?_)
  · unfold jM_findArrow_L2
    rw [hr.a]
    exact ⟨fun _ => hf hI, fun q => absurd (Int.le_refl _) q⟩
  · unfold jM_findArrow_L2
    rw [hr.a, hr.anum x x0 x1]
    exact ⟨fun q => by omega, fun q => ⟨by omega, by omega, by omega, by omega, fun e => ⟨by omega, fun v hv => hv ▸ hK (fun j j0 j1 => if e2 : j = x then e2 ▸ e else hI j j0 (by omega))⟩, fun e => ht x x0 x1 e⟩⟩
theorem from_ok (hr : RV A (M 1)) (hv : Val B A) {k : Int} (h0 : 0 ≤ k) (h1 : k < A 6 0) (h : Φ (A 9 k)) : jM_from k M Φ := by
  have ha := hv.a
  have v := hv.from k h0 h1
  unfold jM_from
  rw [hr.from k h0 h1]
  refine ⟨by omega, by omega, by omega, by omega, by omega, find_ok hr hv (fun i i0 i1 e => ?_) (fun q => absurd rfl (q _ v.1 v.2))⟩
  rw [hv.uniq i0 i1 v.1 v.2 e]
  exact h
theorem to_ok (hr : RV A (M 1)) (hv : Val B A) {k : Int} (h0 : 0 ≤ k) (h1 : k < A 6 0) (h : Φ (A 10 k)) : jM_to k M Φ := by
  have ha := hv.a
  have v := hv.to k h0 h1
  unfold jM_to
  rw [hr.to k h0 h1]
  refine ⟨by omega, by omega, by omega, by omega, by omega, find_ok hr hv (fun i i0 i1 e => ?_) (fun q => absurd rfl (q _ v.1 v.2))⟩
  rw [hv.uniq i0 i1 v.1 v.2 e]
  exact h
def inBar (A : zA) (w s l but k : Int) : Prop := k ≠ but ∧ s ≤ l ∧ A 3 k = w ∧ A 4 k ≤ l ∧ s < endA A k
theorem within_ok (hr : RV A (M 1)) (hv : Val B A) {w s l but : Int} (ht : ∀ k, 0 ≤ k → k < A 0 0 → inBar A w s l but k → Φ k) (hf : (∀ k, 0 ≤ k → k < A 0 0 → ¬ inBar A w s l but k) → Φ (-5)) : jM_within w s l but M Φ := by
  have hn := hv.n
  unfold jM_within
  refine zfor1 (fun x => ∀ k, 0 ≤ k → k < x → ¬ inBar A w s l but k) (n := A 0 0) hn.1 (fun j _ _ => by omega) (fun K hI => ?_) (fun K x x0 x1 hI hK => ?_)
  · unfold jM_within_L3
    rw [hr.n]
    exact ⟨fun _ => hf hI, fun q => absurd (Int.le_refl _) q⟩
  · have nx : ¬ inBar A w s l but x → (i32 (x + 1) ∧ ∀ v : Int, v = x + 1 → K v) := fun q => ⟨by omega, fun v hv => hv ▸ hK (fun j j0 j1 => if e : j = x then e ▸ q else hI j j0 (by omega))⟩
    unfold jM_within_L3
    rw [hr.n]
    exact ⟨fun q => by omega, fun q => ⟨fun e => nx (fun z => z.1 e), fun e => ⟨fun e2 => nx (fun z => by have := z.2.1; omega), fun e2 => of1_ok hr hv x0 x1 ⟨fun e3 => nx (fun z => e3 z.2.2.1), fun e3 => of2_ok hr hv x0 x1 ⟨fun e4 => nx (fun z => by have := z.2.2.2.1; omega), fun e4 => end_ok hr hv x0 x1 ⟨fun e5 => nx (fun z => by have := z.2.2.2.2; omega), fun e5 => ht x x0 x1 ⟨e, by omega, e3, by omega, by omega⟩⟩⟩⟩⟩⟩⟩
theorem greatestEndM_ok (hr : RV A (M 1)) (hv : Val B A) (h : Φ (gEnd A)) : jM_greatestEnd M Φ := by
  have hn := hv.n
  unfold jM_greatestEnd
  refine zfor2 (fun x => mxI (endA A) x) (n := A 0 0) hn.1 rfl (fun K => ?_) (fun K x x0 x1 hK => ?_)
  · show jM_greatestEnd_L4 K Φ M (gEnd A) (A 0 0)
    unfold jM_greatestEnd_L4
    rw [hr.n]
    exact ⟨fun _ => h, fun q => absurd (Int.le_refl _) q⟩
  · show jM_greatestEnd_L4 K Φ M (mxI (endA A) x) x
    unfold jM_greatestEnd_L4
    rw [hr.n]
    refine ⟨fun q => by omega, fun q => end_ok hr hv x0 x1 (most_ok ⟨by omega, ?_⟩)⟩
    rintro _ rfl
    rw [mxI_s _ x0] at hK
    exact hK
theorem hasBarsM_ok (hr : RV A (M 1)) (hv : Val B A) {w : Int} (ht : lanedBy A w → Φ 1) (hf : ¬ lanedBy A w → Φ 0) : jM_hasBars w M Φ := by
  refine within_ok hr hv (fun k k0 k1 hk => ⟨fun z => by omega, fun _ => ht ⟨k, k0, k1, hk.2.2.1⟩⟩) (fun hk => ⟨fun _ => hf (fun ⟨j, j0, j1, e⟩ => ?_), fun z => absurd rfl z⟩)
  have v := hv.day j j0 j1
  exact hk j j0 j1 ⟨by omega, by omega, e, by omega, by unfold endA; omega⟩
theorem lanes_ok (hr : RV A (M 1)) (hv : Val B A) (h : Φ (lanesA A)) : jM_lanes M Φ := by
  unfold jM_lanes
  refine zfor2 (fun x => sumI (laneC A) x) (n := 12) (by omega) rfl (fun K => ?_) (fun K x x0 x1 hK => ?_)
  · exact ⟨fun _ => h, fun q => absurd (Int.le_refl _) q⟩
  · show jM_lanes_L4 K Φ M (sumI (laneC A) x) x
    unfold jM_lanes_L4
    have hg := sumI_rng (f := laneC A) (c := 1) (n := x) x0 (fun j _ _ => laneC_rng j)
    rw [sumI_s _ x0] at hK
    refine ⟨fun q => by omega, fun q => hasBarsM_ok hr hv (fun q2 => ⟨fun z => by omega, fun _ => ⟨by omega, ?_⟩⟩) (fun q2 => ⟨fun _ => ⟨by omega, ?_⟩, fun z => absurd rfl z⟩)⟩
    · rintro _ rfl
      refine ⟨by omega, ?_⟩
      rintro _ rfl
      rw [laneC_t q2] at hK
      exact hK
    · rintro _ rfl
      refine ⟨by omega, ?_⟩
      rintro _ rfl
      rw [laneC_f q2] at hK
      exact hK
theorem lateByM_ok (hr : RV A (M 1)) (hv : Val B A) {k : Int} (h0 : 0 ≤ k) (h1 : k < A 6 0) (h : Φ (lateA A k)) : jM_lateBy k M Φ := by
  have v6 := hv.from k h0 h1
  have v7 := hv.to k h0 h1
  have d1 := hv.day (A 9 k) v6.1 v6.2
  have d2 := hv.day (A 10 k) v7.1 v7.2
  refine from_ok hr hv h0 h1 (end_ok hr hv v6.1 v6.2 (to_ok hr hv h0 h1 (of2_ok hr hv v7.1 v7.2 ⟨by unfold endA; omega, most_ok ?_⟩)))
  unfold lateA at h
  rw [Int.max_comm] at h
  exact h
theorem arrowsAt1_ok (hr : RV A (M 1)) (hv : Val B A) {i : Int} (i0 : 0 ≤ i) (i1 : i < A 0 0) (h : Φ (cntA (fun k => decide (A 9 k = i)) (A 6 0))) : jM_arrowsAt i 1 M Φ := by
  have ha := hv.a
  unfold jM_arrowsAt
  refine zfor2 (fun x => cntA (fun k => decide (A 9 k = i)) x) (n := A 6 0) ha.1 rfl (fun K => ?_) (fun K x x0 x1 hK => ?_)
  · show jM_arrowsAt_L5 i 1 K Φ M (cntA (fun k => decide (A 9 k = i)) (A 6 0)) (A 6 0)
    unfold jM_arrowsAt_L5
    rw [hr.a]
    exact ⟨fun _ => h, fun q => absurd (Int.le_refl _) q⟩
  · show jM_arrowsAt_L5 i 1 K Φ M (cntA (fun k => decide (A 9 k = i)) x) x
    have hg := cntA_rng (p := fun k => decide (A 9 k = i)) x0
    have v := hv.from x x0 x1
    unfold jM_arrowsAt_L5
    rw [hr.a, hr.from x x0 x1]
    refine ⟨fun q => by omega, fun q => ⟨by omega, by omega, by omega, by omega, by omega, of0_ok hr hv i0 i1 ⟨fun z => ⟨by omega, ?_⟩, fun z => ⟨by omega, ?_⟩⟩⟩⟩
    · rintro _ rfl
      refine ⟨by omega, ?_⟩
      rintro _ rfl
      rw [cntA_f x0 (by rw [decide_eq_true_iff]; exact fun e => z (by rw [e]))] at hK
      exact hK
    · rintro _ rfl
      refine ⟨by omega, ?_⟩
      rintro _ rfl
      rw [cntA_t x0 (by rw [decide_eq_true_iff]; exact hv.uniq v.1 v.2 i0 i1 z)] at hK
      exact hK
theorem arrowsAt2_ok (hr : RV A (M 1)) (hv : Val B A) {i : Int} (i0 : 0 ≤ i) (i1 : i < A 0 0) (h : Φ (cntA (fun k => decide (A 10 k = i)) (A 6 0))) : jM_arrowsAt i 2 M Φ := by
  have ha := hv.a
  unfold jM_arrowsAt
  refine zfor2 (fun x => cntA (fun k => decide (A 10 k = i)) x) (n := A 6 0) ha.1 rfl (fun K => ?_) (fun K x x0 x1 hK => ?_)
  · show jM_arrowsAt_L5 i 2 K Φ M (cntA (fun k => decide (A 10 k = i)) (A 6 0)) (A 6 0)
    unfold jM_arrowsAt_L5
    rw [hr.a]
    exact ⟨fun _ => h, fun q => absurd (Int.le_refl _) q⟩
  · show jM_arrowsAt_L5 i 2 K Φ M (cntA (fun k => decide (A 10 k = i)) x) x
    have hg := cntA_rng (p := fun k => decide (A 10 k = i)) x0
    have v := hv.to x x0 x1
    unfold jM_arrowsAt_L5
    rw [hr.a, hr.to x x0 x1]
    refine ⟨fun q => by omega, fun q => ⟨by omega, by omega, by omega, by omega, by omega, of0_ok hr hv i0 i1 ⟨fun z => ⟨by omega, ?_⟩, fun z => ⟨by omega, ?_⟩⟩⟩⟩
    · rintro _ rfl
      refine ⟨by omega, ?_⟩
      rintro _ rfl
      rw [cntA_f x0 (by rw [decide_eq_true_iff]; exact fun e => z (by rw [e]))] at hK
      exact hK
    · rintro _ rfl
      refine ⟨by omega, ?_⟩
      rintro _ rfl
      rw [cntA_t x0 (by rw [decide_eq_true_iff]; exact hv.uniq v.1 v.2 i0 i1 z)] at hK
      exact hK
theorem behind_ok (hr : RV A (M 1)) (hv : Val B A) {i : Int} (i0 : 0 ≤ i) (i1 : i < A 0 0) (ht : ∀ j, 0 ≤ j → j < A 0 0 → behindP A i j → (∀ q, 0 ≤ q → q < A 0 0 → behindP A i q → A 4 j ≤ A 4 q) → Φ (A 2 j)) (hf : (∀ j, 0 ≤ j → j < A 0 0 → ¬ behindP A i j) → Φ (-5)) : jM_behind i M Φ := by
  have hn := hv.n
  unfold jM_behind
  refine zfor2i (fun a x => (a = -5 ∧ ∀ j, 0 ≤ j → j < x → ¬ behindP A i j) ∨ (0 ≤ a ∧ a < x ∧ behindP A i a ∧ ∀ q, 0 ≤ q → q < x → behindP A i q → A 4 a ≤ A 4 q)) (n := A 0 0) hn.1 (Or.inl ⟨rfl, fun j _ _ => by omega⟩) (fun K a hI => ?_) (fun K a x x0 x1 hI hK => ?_)
  · show jM_behind_L5 i K Φ M a (A 0 0)
    unfold jM_behind_L5
    rw [hr.n]
    refine ⟨fun _ => ⟨fun z => ?_, fun z => ?_⟩, fun q => absurd (Int.le_refl _) q⟩
    · rcases hI with ⟨q1, q2⟩ | ⟨q1, q2, q3, q4⟩
      · omega
      · exact of0_ok hr hv q1 q2 (ht a q1 q2 q3 q4)
    · rcases hI with ⟨q1, q2⟩ | ⟨q1, q2, q3, q4⟩
      · exact hf q2
      · omega
  · show jM_behind_L5 i K Φ M a x
    have nx : ¬ behindP A i x → K (a, x + 1) := fun q => hK a (by
      rcases hI with ⟨q1, q2⟩ | ⟨q1, q2, q3, q4⟩
      · exact Or.inl ⟨q1, fun j j0 j1 => if e : j = x then e ▸ q else q2 j j0 (by omega)⟩
      · exact Or.inr ⟨q1, by omega, q3, fun j j0 j1 => if e : j = x then fun z => absurd (e ▸ z) q else q4 j j0 (by omega)⟩)
    have j49 : ¬ behindP A i x → jM_behind_J49 i K Φ a x M := fun q => ⟨fun _ => ⟨by omega, fun v hv => hv ▸ nx q⟩, fun z => absurd rfl z⟩
    unfold jM_behind_L5
    rw [hr.n]
    refine ⟨fun q => by omega, fun q => of1_ok hr hv x0 x1 (of1_ok hr hv i0 i1 ⟨fun e => j49 (fun z => e z.1), fun e => of2_ok hr hv x0 x1 (of2_ok hr hv i0 i1 ⟨fun e2 => j49 (fun z => by have := z.2; omega), fun e2 => ?_⟩)⟩)⟩
    have hb : behindP A i x := ⟨e, by omega⟩
    unfold jM_behind_J50
    refine ⟨fun z => by omega, fun _ => ⟨fun z => ⟨by omega, fun v hv => hv ▸ hK x ?_⟩, fun z => ?_⟩⟩
    · rcases hI with ⟨q1, q2⟩ | ⟨q1, q2, q3, q4⟩
      · exact Or.inr ⟨x0, by omega, hb, fun j j0 j1 hj => if e : j = x then by rw [e]; exact Int.le_refl _ else absurd hj (q2 j j0 (by omega))⟩
      · omega
    · rcases hI with ⟨q1, q2⟩ | ⟨q1, q2, q3, q4⟩
      · omega
      · refine of2_ok hr hv x0 x1 (of2_ok hr hv q1 (by omega) ⟨fun z2 => ⟨by omega, fun v hv => hv ▸ hK a ?_⟩, fun z2 => ⟨by omega, fun v hv => hv ▸ hK x ?_⟩⟩)
        · exact Or.inr ⟨q1, by omega, q3, fun j j0 j1 hj => if e : j = x then by rw [e]; exact z2 else q4 j j0 (by omega) hj⟩
        · exact Or.inr ⟨x0, by omega, hb, fun j j0 j1 hj => if e : j = x then by rw [e]; exact Int.le_refl _ else by have := q4 j j0 (by omega) hj; omega⟩
theorem widthOf_ok (hr : RV A (M 1)) (hv : Val B A) {s e : Int} (h0 : 0 ≤ s) (h1 : s ≤ e) (h2 : e ≤ 200) (h : Φ (plc A e - plc A s)) : jM_widthOf s e M Φ := by
  unfold jM_widthOf
  refine zfor2 (fun x => plc A x - plc A s) (n := e) h1 (by omega) (fun K => ?_) (fun K x x0 x1 hK => ?_)
  · exact ⟨fun _ => h, fun q => absurd (Int.le_refl _) q⟩
  · show jM_widthOf_L5 s e K Φ M (plc A x - plc A s) x
    have w1 := hr.wid x (by omega) (by omega)
    have w2 := hv.wid x (by omega) (by omega)
    have w3 := plc_mono hv h0 x0 (by omega)
    have w4 := plc_s (A := A) (d := x) (by omega)
    unfold jM_widthOf_L5
    rw [w1]
    refine ⟨fun q => by omega, fun q => ⟨by omega, by omega, by omega, by omega, ?_⟩⟩
    rintro _ rfl
    refine ⟨by omega, ?_⟩
    rintro _ rfl
    rw [show plc A (x + 1) - plc A s = plc A x - plc A s + A 11 x by omega] at hK
    exact hK
theorem widthOf0_ok (hr : RV A (M 1)) (hv : Val B A) {e : Int} (h1 : 0 ≤ e) (h2 : e ≤ 200) (h : Φ (plc A e)) : jM_widthOf 0 e M Φ := by
  refine widthOf_ok hr hv (Int.le_refl 0) h1 h2 ?_
  have e0 : plc A 0 = 0 := rfl
  rw [e0, show plc A e - 0 = plc A e by omega]
  exact h
end RM
