/-! more reads of the class -/
theorem zfor2i {body : (Int × Int → Prop) → Int × Int → Prop} (I : Int → Int → Prop) {acc lo n : Int} (hlo : lo ≤ n) (h0 : I acc lo) (hend : ∀ K a, I a n → body K (a, n)) (hstep : ∀ K a x, lo ≤ x → x < n → I a x → (∀ a', I a' (x + 1) → K (a', x + 1)) → body K (a, x)) : zwh body (acc, lo) := by
  refine zwh_run (fun s => lo ≤ s.2 ∧ s.2 ≤ n ∧ I s.1 s.2) (fun s => (n - s.2).toNat) ?_ (acc, lo) ⟨Int.le_refl _, hlo, h0⟩
  rintro K ⟨a, x⟩ ⟨h1, h2, h3⟩ hK
  have h3 : I a x := h3
  have h1 : lo ≤ x := h1
  have h2 : x ≤ n := h2
  by_cases e : x = n
  · subst e; exact hend K a h3
  · exact hstep K a x h1 (by omega) h3 (fun a' q => hK _ ⟨by show lo ≤ x + 1; omega, by show x + 1 ≤ n; omega, q⟩ (by show (n - (x + 1)).toNat < (n - x).toNat; omega))
section RC
variable {A : zA} {M : zM} {b : Nat} {B : Int} {Φ : Int → Prop}
def lateA (A : zA) (k : Int) : Int := max 0 (endA A (A 9 k) - A 4 (A 10 k))
theorem lateBy_ok (hc : CV A M b) (hv : Val B A) {k : Int} (h0 : 0 ≤ k) (h1 : k < A 6 0) (h : Φ (lateA A k)) : jC_lateBy b k M Φ := by
  have hn := hv.n
  have ha := hv.a
  have c5_k := hc.anum k (by omega) (by omega)
  have c6_k := hc.from k (by omega) (by omega)
  have c7_k := hc.to k (by omega) (by omega)
  have v5_k := hv.anum k (by omega) (by omega)
  have v6_k := hv.from k (by omega) (by omega)
  have v7_k := hv.to k (by omega) (by omega)
  unfold jC_lateBy
  rw [c6_k, c7_k]
  refine ⟨by omega, by omega, endOf_ok hc hv v6_k.1 v6_k.2 ?_⟩
  have cf := hc.first (A 10 k) v7_k.1 v7_k.2
  have d1 := hv.day (A 9 k) v6_k.1 v6_k.2
  have d2 := hv.day (A 10 k) v7_k.1 v7_k.2
  refine ⟨by omega, by omega, by omega, by omega, ?_⟩
  rw [cf]
  exact ⟨by omega, h⟩
theorem lateA_rng (hv : Val B A) {k : Int} (h0 : 0 ≤ k) (h1 : k < A 6 0) : 0 ≤ lateA A k ∧ lateA A k ≤ 200 := by
  have v6 := hv.from k h0 h1
  have v7 := hv.to k h0 h1
  have d1 := hv.day (A 9 k) v6.1 v6.2
  have d2 := hv.day (A 10 k) v7.1 v7.2
  unfold lateA endA
  omega
def cntA (p : Int → Bool) (n : Int) : Int := sumI (fun j => if p j then 1 else 0) n
theorem cntA_rng {p : Int → Bool} {n : Int} (hn : 0 ≤ n) : 0 ≤ cntA p n ∧ cntA p n ≤ n := by
  have := sumI_rng (f := fun j => if p j then 1 else 0) (c := 1) hn (fun j _ _ => by show 0 ≤ (if p j then (1 : Int) else 0) ∧ (if p j then (1 : Int) else 0) ≤ 1; split <;> omega)
  unfold cntA; omega
theorem cntA_0 (p : Int → Bool) : cntA p 0 = 0 := rfl
theorem cntA_t {p : Int → Bool} {n : Int} (h : 0 ≤ n) (hp : p n = true) : cntA p (n + 1) = cntA p n + 1 := by unfold cntA; rw [sumI_s _ h, if_pos hp]
theorem cntA_f {p : Int → Bool} {n : Int} (h : 0 ≤ n) (hp : ¬ p n = true) : cntA p (n + 1) = cntA p n + 0 := by unfold cntA; rw [sumI_s _ h, if_neg hp]
theorem cntA_congr {p q : Int → Bool} {n : Int} (h : ∀ j, 0 ≤ j → j < n → p j = q j) : cntA p n = cntA q n := sumI_congr (fun j h0 h1 => by rw [h j h0 h1])
def lateN (A : zA) : Int := cntA (fun k => decide (0 < lateA A k)) (A 6 0)
theorem lateArrows_ok (hc : CV A M b) (hv : Val B A) (h : Φ (lateN A)) : jC_lateArrows b M Φ := by
  have ha := hv.a
  unfold jC_lateArrows
  refine zfor2 (fun x => cntA (fun k => decide (0 < lateA A k)) x) (n := A 6 0) ha.1 rfl (fun K => ?_) (fun K x x0 x1 hK => ?_)
  · show jC_lateArrows_L4 b K Φ M (lateN A) (A 6 0)
    unfold jC_lateArrows_L4
    rw [hc.a]
    exact ⟨fun _ => h, fun q => absurd (Int.le_refl _) q⟩
  · show jC_lateArrows_L4 b K Φ M (cntA (fun k => decide (0 < lateA A k)) x) x
    have hg := cntA_rng (p := fun k => decide (0 < lateA A k)) x0
    unfold jC_lateArrows_L4
    rw [hc.a]
    refine ⟨fun q => by omega, fun q => lateBy_ok hc hv x0 x1 ⟨fun z => ⟨by omega, ?_⟩, fun z => ⟨by omega, ?_⟩⟩⟩
    · rintro _ rfl
      refine ⟨by omega, ?_⟩
      rintro _ rfl
      rw [cntA_f x0 (by simp; omega)] at hK
      exact hK
    · rintro _ rfl
      refine ⟨by omega, ?_⟩
      rintro _ rfl
      rw [cntA_t x0 (by simp; omega)] at hK
      exact hK
theorem arrowsFrom_ok (hc : CV A M b) (hv : Val B A) {i : Int} (h : Φ (cntA (fun k => decide (A 9 k = i)) (A 6 0))) : jC_arrowsFrom b i M Φ := by
  have ha := hv.a
  unfold jC_arrowsFrom
  refine zfor2 (fun x => cntA (fun k => decide (A 9 k = i)) x) (n := A 6 0) ha.1 rfl (fun K => ?_) (fun K x x0 x1 hK => ?_)
  · show jC_arrowsFrom_L4 b i K Φ M (cntA (fun k => decide (A 9 k = i)) (A 6 0)) (A 6 0)
    unfold jC_arrowsFrom_L4
    rw [hc.a]
    exact ⟨fun _ => h, fun q => absurd (Int.le_refl _) q⟩
  · show jC_arrowsFrom_L4 b i K Φ M (cntA (fun k => decide (A 9 k = i)) x) x
    have hg := cntA_rng (p := fun k => decide (A 9 k = i)) x0
    have c5_x := hc.anum x (by omega) (by omega)
    have c6_x := hc.from x (by omega) (by omega)
    have c7_x := hc.to x (by omega) (by omega)
    have v5_x := hv.anum x (by omega) (by omega)
    have v6_x := hv.from x (by omega) (by omega)
    have v7_x := hv.to x (by omega) (by omega)
    unfold jC_arrowsFrom_L4
    rw [hc.a, c6_x]
    refine ⟨fun q => by omega, fun q => ⟨by omega, by omega, fun z => ⟨by omega, ?_⟩, fun z => ⟨by omega, ?_⟩⟩⟩
    · rintro _ rfl
      refine ⟨by omega, ?_⟩
      rintro _ rfl
      rw [cntA_f x0 (by simp; omega)] at hK
      exact hK
    · rintro _ rfl
      refine ⟨by omega, ?_⟩
      rintro _ rfl
      rw [cntA_t x0 (by simp; omega)] at hK
      exact hK
theorem arrowsTo_ok (hc : CV A M b) (hv : Val B A) {i : Int} (h : Φ (cntA (fun k => decide (A 10 k = i)) (A 6 0))) : jC_arrowsTo b i M Φ := by
  have ha := hv.a
  unfold jC_arrowsTo
  refine zfor2 (fun x => cntA (fun k => decide (A 10 k = i)) x) (n := A 6 0) ha.1 rfl (fun K => ?_) (fun K x x0 x1 hK => ?_)
  · show jC_arrowsTo_L4 b i K Φ M (cntA (fun k => decide (A 10 k = i)) (A 6 0)) (A 6 0)
    unfold jC_arrowsTo_L4
    rw [hc.a]
    exact ⟨fun _ => h, fun q => absurd (Int.le_refl _) q⟩
  · show jC_arrowsTo_L4 b i K Φ M (cntA (fun k => decide (A 10 k = i)) x) x
    have hg := cntA_rng (p := fun k => decide (A 10 k = i)) x0
    have c5_x := hc.anum x (by omega) (by omega)
    have c6_x := hc.from x (by omega) (by omega)
    have c7_x := hc.to x (by omega) (by omega)
    have v5_x := hv.anum x (by omega) (by omega)
    have v6_x := hv.from x (by omega) (by omega)
    have v7_x := hv.to x (by omega) (by omega)
    unfold jC_arrowsTo_L4
    rw [hc.a, c7_x]
    refine ⟨fun q => by omega, fun q => ⟨by omega, by omega, fun z => ⟨by omega, ?_⟩, fun z => ⟨by omega, ?_⟩⟩⟩
    · rintro _ rfl
      refine ⟨by omega, ?_⟩
      rintro _ rfl
      rw [cntA_f x0 (by simp; omega)] at hK
      exact hK
    · rintro _ rfl
      refine ⟨by omega, ?_⟩
      rintro _ rfl
      rw [cntA_t x0 (by simp; omega)] at hK
      exact hK
theorem barAt_ok (hc : CV A M b) (hv : Val B A) {w d : Int} (hd : 0 ≤ d ∧ d < 200) (ht : ∀ i, 0 ≤ i → i < A 0 0 → A 3 i = w → A 4 i ≤ d → d < endA A i → Φ (A 2 i)) (hf : (∀ i, 0 ≤ i → i < A 0 0 → A 3 i = w → ¬ (A 4 i ≤ d ∧ d < endA A i)) → Φ (-5)) : jC_barAt b w d M Φ := by
  have hn := hv.n
  unfold jC_barAt
  refine zfor1 (fun x => ∀ i, 0 ≤ i → i < x → A 3 i = w → ¬ (A 4 i ≤ d ∧ d < endA A i)) (n := A 0 0) hn.1 (fun j _ _ => by omega) (fun K hI => ?_) (fun K x x0 x1 hI hK => ?_)
  · unfold jC_barAt_L2
    rw [hc.n]
    exact ⟨fun _ => hf hI, fun q => absurd (Int.le_refl _) q⟩
  · have next : (A 3 x = w → ¬ (A 4 x ≤ d ∧ d < endA A x)) → K (x + 1) := fun q => hK (fun j j0 j1 => if e : j = x then e ▸ q else hI j j0 (by omega))
    have c1_x := hc.num x (by omega) (by omega)
    have c2_x := hc.lane x (by omega) (by omega)
    have c3_x := hc.first x (by omega) (by omega)
    have c4_x := hc.days x (by omega) (by omega)
    have v1_x := hv.num x (by omega) (by omega)
    have v2_x := hv.lane x (by omega) (by omega)
    have v3_x := hv.day x (by omega) (by omega)
    unfold jC_barAt_L2
    rw [hc.n, c2_x, c1_x]
    refine ⟨fun q => by omega, fun q => ⟨by omega, by omega, fun e => ⟨by omega, fun v hv => hv ▸ next (fun z => absurd z e)⟩, fun e => ⟨by omega, ?_⟩⟩⟩
    refine shares_ok hc hv x0 x1 (fun s1 s2 => ⟨fun z => by omega, fun _ => ⟨by omega, by omega, ht x x0 x1 e (by omega) s2⟩⟩) (fun s1 => ⟨fun _ => ⟨by omega, fun v hv => hv ▸ next (fun _ z => s1 ⟨by omega, z.2⟩)⟩, fun z => absurd rfl z⟩)
def behindP (A : zA) (i j : Int) : Prop := A 3 j = A 3 i ∧ A 4 i < A 4 j
theorem nextInLane_ok (hc : CV A M b) (hv : Val B A) {i : Int} (i0 : 0 ≤ i) (i1 : i < A 0 0) (ht : ∀ j, 0 ≤ j → j < A 0 0 → behindP A i j → (∀ q, 0 ≤ q → q < A 0 0 → behindP A i q → A 4 j ≤ A 4 q) → Φ (A 2 j)) (hf : (∀ j, 0 ≤ j → j < A 0 0 → ¬ behindP A i j) → Φ (-5)) : jC_nextInLane b i M Φ := by
  have hn := hv.n
  unfold jC_nextInLane
  refine zfor2i (fun a x => (a = -1 ∧ ∀ j, 0 ≤ j → j < x → ¬ behindP A i j) ∨ (0 ≤ a ∧ a < x ∧ behindP A i a ∧ ∀ q, 0 ≤ q → q < x → behindP A i q → A 4 a ≤ A 4 q)) (n := A 0 0) hn.1 (Or.inl ⟨rfl, fun j _ _ => by omega⟩) (fun K a hI => ?_) (fun K a x x0 x1 hI hK => ?_)
  · show jC_nextInLane_L4 b i K Φ M a (A 0 0)
    unfold jC_nextInLane_L4
    rw [hc.n]
    refine ⟨fun _ => ⟨fun z => ?_, fun z => ?_⟩, fun q => absurd (Int.le_refl _) q⟩
    · rcases hI with ⟨q1, q2⟩ | ⟨q1, q2, q3, q4⟩
      · omega
      · rw [hc.num a q1 q2]
        exact ⟨by omega, by omega, ht a q1 q2 q3 q4⟩
    · rcases hI with ⟨q1, q2⟩ | ⟨q1, q2, q3, q4⟩
      · exact hf q2
      · omega
  · show jC_nextInLane_L4 b i K Φ M a x
    have c1_x := hc.num x (by omega) (by omega)
    have c2_x := hc.lane x (by omega) (by omega)
    have c3_x := hc.first x (by omega) (by omega)
    have c4_x := hc.days x (by omega) (by omega)
    have v1_x := hv.num x (by omega) (by omega)
    have v2_x := hv.lane x (by omega) (by omega)
    have v3_x := hv.day x (by omega) (by omega)
    have c1_i := hc.num i (by omega) (by omega)
    have c2_i := hc.lane i (by omega) (by omega)
    have c3_i := hc.first i (by omega) (by omega)
    have c4_i := hc.days i (by omega) (by omega)
    have v1_i := hv.num i (by omega) (by omega)
    have v2_i := hv.lane i (by omega) (by omega)
    have v3_i := hv.day i (by omega) (by omega)
    have nx : ¬ behindP A i x → K (a, x + 1) := fun q => hK a (by
      rcases hI with ⟨q1, q2⟩ | ⟨q1, q2, q3, q4⟩
      · exact Or.inl ⟨q1, fun j j0 j1 => if e : j = x then e ▸ q else q2 j j0 (by omega)⟩
      · exact Or.inr ⟨q1, by omega, q3, fun j j0 j1 => if e : j = x then fun z => absurd (e ▸ z) q else q4 j j0 (by omega)⟩)
    have j46 : ¬ behindP A i x → jC_nextInLane_J46 b i K Φ a x M := fun q => ⟨fun _ => ⟨by omega, fun v hv => hv ▸ nx q⟩, fun z => absurd rfl z⟩
    unfold jC_nextInLane_L4
    rw [hc.n, c2_x, c2_i, c3_x, c3_i]
    refine ⟨fun q => by omega, fun q => ⟨by omega, by omega, by omega, by omega, fun e => j46 (fun z => e z.1), fun e => ⟨by omega, by omega, by omega, by omega, fun e2 => j46 (fun z => by have := z.2; omega), fun e2 => ?_⟩⟩⟩
    have hb : behindP A i x := ⟨e, by omega⟩
    unfold jC_nextInLane_J47
    refine ⟨fun z => by omega, fun _ => ⟨fun z => ⟨by omega, fun v hv => hv ▸ hK x ?_⟩, fun z => ?_⟩⟩
    · rcases hI with ⟨q1, q2⟩ | ⟨q1, q2, q3, q4⟩
      · exact Or.inr ⟨x0, by omega, hb, fun j j0 j1 hj => if e : j = x then by rw [e]; exact Int.le_refl _ else absurd hj (q2 j j0 (by omega))⟩
      · omega
    · rcases hI with ⟨q1, q2⟩ | ⟨q1, q2, q3, q4⟩
      · omega
      · rw [c3_x, hc.first a q1 (by omega)]
        refine ⟨by omega, by omega, by omega, by omega, fun z2 => ⟨by omega, fun v hv => hv ▸ hK a ?_⟩, fun z2 => ⟨by omega, fun v hv => hv ▸ hK x ?_⟩⟩
        · exact Or.inr ⟨q1, by omega, q3, fun j j0 j1 hj => if e : j = x then by rw [e]; exact z2 else q4 j j0 (by omega) hj⟩
        · exact Or.inr ⟨x0, by omega, hb, fun j j0 j1 hj => if e : j = x then by rw [e]; exact Int.le_refl _ else by have := q4 j j0 (by omega) hj; omega⟩
def shownN (A : zA) (s e : Int) : Int := cntA (fun j => decide (A 4 j < e ∧ s < endA A j)) (A 0 0)
theorem barsShown_ok (hc : CV A M b) (hv : Val B A) {s e : Int} (h : Φ (shownN A s e)) : jC_barsShown b s e M Φ := by
  have hn := hv.n
  unfold jC_barsShown
  refine zfor2 (fun x => cntA (fun j => decide (A 4 j < e ∧ s < endA A j)) x) (n := A 0 0) hn.1 rfl (fun K => ?_) (fun K x x0 x1 hK => ?_)
  · show jC_barsShown_L5 b s e K Φ M (shownN A s e) (A 0 0)
    unfold jC_barsShown_L5
    rw [hc.n]
    exact ⟨fun _ => h, fun q => absurd (Int.le_refl _) q⟩
  · show jC_barsShown_L5 b s e K Φ M (cntA (fun j => decide (A 4 j < e ∧ s < endA A j)) x) x
    have hg := cntA_rng (p := fun j => decide (A 4 j < e ∧ s < endA A j)) x0
    unfold jC_barsShown_L5
    rw [hc.n]
    refine ⟨fun q => by omega, fun q => shares_ok hc hv x0 x1 (fun s1 s2 => ⟨fun z => by omega, fun _ => ⟨by omega, ?_⟩⟩) (fun s1 => ⟨fun z => ⟨by omega, ?_⟩, fun z => absurd rfl z⟩)⟩
    · rintro _ rfl
      refine ⟨by omega, ?_⟩
      rintro _ rfl
      rw [cntA_t x0 (by simp; exact ⟨s1, s2⟩)] at hK
      exact hK
    · rintro _ rfl
      refine ⟨by omega, ?_⟩
      rintro _ rfl
      rw [cntA_f x0 (by rw [decide_eq_true_iff]; exact s1)] at hK
      exact hK
def begunN (A : zA) (s e : Int) : Int := cntA (fun j => decide (s ≤ A 4 j ∧ A 4 j < e)) (A 0 0)
theorem barsBegun_ok (hc : CV A M b) (hv : Val B A) {s e : Int} (h : Φ (begunN A s e)) : jC_barsBegun b s e M Φ := by
  have hn := hv.n
  unfold jC_barsBegun
  refine zfor2 (fun x => cntA (fun j => decide (s ≤ A 4 j ∧ A 4 j < e)) x) (n := A 0 0) hn.1 rfl (fun K => ?_) (fun K x x0 x1 hK => ?_)
  · show jC_barsBegun_L5 b s e K Φ M (begunN A s e) (A 0 0)
    unfold jC_barsBegun_L5
    rw [hc.n]
    exact ⟨fun _ => h, fun q => absurd (Int.le_refl _) q⟩
  · show jC_barsBegun_L5 b s e K Φ M (cntA (fun j => decide (s ≤ A 4 j ∧ A 4 j < e)) x) x
    have hg := cntA_rng (p := fun j => decide (s ≤ A 4 j ∧ A 4 j < e)) x0
    have c1_x := hc.num x (by omega) (by omega)
    have c2_x := hc.lane x (by omega) (by omega)
    have c3_x := hc.first x (by omega) (by omega)
    have c4_x := hc.days x (by omega) (by omega)
    have v1_x := hv.num x (by omega) (by omega)
    have v2_x := hv.lane x (by omega) (by omega)
    have v3_x := hv.day x (by omega) (by omega)
    have no : ¬ (s ≤ A 4 x ∧ A 4 x < e) → jC_barsBegun_J41 b s e K Φ x (cntA (fun j => decide (s ≤ A 4 j ∧ A 4 j < e)) x) M := by
      intro q
      refine ⟨by omega, ?_⟩
      rintro _ rfl
      refine ⟨by omega, ?_⟩
      rintro _ rfl
      rw [cntA_f x0 (by rw [decide_eq_true_iff]; exact q)] at hK
      exact hK
    unfold jC_barsBegun_L5
    rw [hc.n, c3_x]
    refine ⟨fun q => by omega, fun q => ⟨by omega, by omega, fun z => no (by omega), fun z => ⟨by omega, by omega, fun z2 => no (by omega), fun z2 => ⟨by omega, ?_⟩⟩⟩⟩
    rintro _ rfl
    refine ⟨by omega, ?_⟩
    rintro _ rfl
    rw [cntA_t x0 (by rw [decide_eq_true_iff]; omega)] at hK
    exact hK
/-- the place of a day -/
def plc (A : zA) (d : Int) : Int := sumI (A 11) d
theorem plc_rng (hv : Val B A) {d : Int} (h0 : 0 ≤ d) (h1 : d ≤ 200) : 0 ≤ plc A d ∧ plc A d ≤ 9 * d := sumI_rng h0 (fun j j0 j1 => by have := hv.wid j j0 (by omega); omega)
theorem plc_s {d : Int} (h0 : 0 ≤ d) : plc A (d + 1) = plc A d + A 11 d := sumI_s _ h0
theorem plc_mono (hv : Val B A) {d e : Int} (h0 : 0 ≤ d) (h1 : d ≤ e) (h2 : e ≤ 200) : e - d ≤ plc A e - plc A d ∧ plc A e - plc A d ≤ 9 * (e - d) := by
  obtain ⟨k, hk⟩ := Int.eq_ofNat_of_zero_le (show 0 ≤ e - d by omega)
  induction k generalizing e with
  | zero => have : e = d := by omega
            subst this; omega
  | succ k ih =>
    have h3 := ih (e := e - 1) (by omega) (by omega) (by omega)
    have h4 := plc_s (A := A) (d := e - 1) (by omega)
    have h5 := hv.wid (e - 1) (by omega) (by omega)
    rw [show e - 1 + 1 = e by omega] at h4
    omega
theorem widthBetween_ok (hc : CV A M b) (hv : Val B A) {s e : Int} (h0 : 0 ≤ s) (h1 : s ≤ e) (h2 : e ≤ 200) (h : Φ (plc A e - plc A s)) : jC_widthBetween b s e M Φ := by
  unfold jC_widthBetween
  refine zfor2 (fun x => plc A x - plc A s) (n := e) h1 (by omega) (fun K => ?_) (fun K x x0 x1 hK => ?_)
  · exact ⟨fun _ => h, fun q => absurd (Int.le_refl _) q⟩
  · show jC_widthBetween_L5 b s e K Φ M (plc A x - plc A s) x
    have w1 := hc.wid x (by omega) (by omega)
    have w2 := hv.wid x (by omega) (by omega)
    have w3 := plc_mono hv h0 x0 (by omega)
    have w4 := plc_s (A := A) (d := x) (by omega)
    unfold jC_widthBetween_L5
    rw [w1]
    refine ⟨fun q => by omega, fun q => ⟨fun q2 => by omega, fun q2 => ⟨by omega, by omega, by omega, ?_⟩⟩⟩
    rintro _ rfl
    refine ⟨by omega, ?_⟩
    rintro _ rfl
    rw [show plc A (x + 1) - plc A s = plc A x - plc A s + A 11 x by omega] at hK
    exact hK
theorem place_ok (hc : CV A M b) (hv : Val B A) {e : Int} (h1 : 0 ≤ e) (h2 : e ≤ 200) (h : Φ (plc A e)) : jC_place b e M Φ := by
  unfold jC_place
  refine widthBetween_ok hc hv (Int.le_refl 0) h1 h2 ?_
  have e0 : plc A 0 = 0 := rfl
  rw [e0, show plc A e - 0 = plc A e by omega]
  exact h
def wBar (A : zA) (j : Int) : Int := plc A (endA A j) - plc A (A 4 j)
theorem wBar_rng (hv : Val B A) {j : Int} (h0 : 0 ≤ j) (h1 : j < A 0 0) : 1 ≤ wBar A j ∧ wBar A j ≤ 270 := by
  have v := hv.day j h0 h1
  have := plc_mono hv (d := A 4 j) (e := endA A j) (by omega) (by unfold endA; omega) (by unfold endA; omega)
  unfold wBar
  unfold endA at this ⊢
  omega
def wBars (A : zA) : Int := sumI (wBar A) (A 0 0)
theorem wBars_part (hv : Val B A) {x : Int} (h0 : 0 ≤ x) (h1 : x ≤ A 0 0) : 0 ≤ sumI (wBar A) x ∧ sumI (wBar A) x ≤ 270 * x := sumI_rng h0 (fun j j0 j1 => by have := wBar_rng hv j0 (show j < A 0 0 by omega); omega)
end RC

