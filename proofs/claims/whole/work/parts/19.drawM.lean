/-! bends and points, the reference's side -/
theorem cnt_uniq {p : Int → Bool} {n w : Int} (w0 : 0 ≤ w) (w1 : w < n) (hp : p w = true) (hu : ∀ j, 0 ≤ j → j < n → p j = true → j = w) : cntA p n = 1 := by
  rw [cntA_const (m := w + 1) (by omega) (by omega) (fun j j0 j1 z => by have := hu j (by omega) j1 z; omega), cntA_t w0 hp, cntA_zero w0 (fun j j0 j1 z => by have := hu j j0 (by omega) z; omega)]
  omega
theorem sum_row (f : Int → Int → Int) {a : Int} (ha : 0 < a) {m : Int} (hm : 0 ≤ m) : ∀ t : Nat, (t : Int) ≤ a → sumI (fun q => f (q / a) (q % a)) (m * a + t) = sumI (fun q => f (q / a) (q % a)) (m * a) + sumI (f m) t
  | 0, _ => by
    show sumI _ (m * a + 0) = _ + 0
    rw [Int.add_zero, Int.add_zero]
  | t + 1, h => by
    have ih := sum_row f ha hm t (by omega)
    have hma : 0 ≤ m * a := Int.mul_nonneg hm (by omega)
    rw [show m * a + ((t + 1 : Nat) : Int) = m * a + t + 1 by omega, sumI_s _ (by omega), ih, show ((t + 1 : Nat) : Int) = (t : Int) + 1 by omega, sumI_s _ (by omega)]
    have e1 : (m * a + t) / a = m := by
      rw [Int.mul_comm, Int.mul_add_ediv_left _ _ (by omega), Int.ediv_eq_zero_of_lt (by omega) (by omega)]
      omega
    have e2 : (m * a + t) % a = t := by
      rw [Int.mul_comm, Int.mul_add_emod_self_left, Int.emod_eq_of_lt (by omega) (by omega)]
    rw [e1, e2]
    omega
theorem sum_sq (f : Int → Int → Int) {a : Int} (ha : 0 < a) : ∀ m : Nat, sumI (fun q => f (q / a) (q % a)) ((m : Int) * a) = sumI (fun i => sumI (f i) a) m
  | 0 => by
    show sumI _ (0 * a) = 0
    rw [Int.zero_mul]
    rfl
  | m + 1 => by
    have ih := sum_sq f ha m
    rw [show ((m + 1 : Nat) : Int) * a = (m : Int) * a + (a.toNat : Nat) by rw [show ((m + 1 : Nat) : Int) = (m : Int) + 1 by omega, Int.add_mul, Int.one_mul]; omega, sum_row f ha (by omega) a.toNat (by omega), ih, show ((m + 1 : Nat) : Int) = (m : Int) + 1 by omega, sumI_s _ (by omega), show ((a.toNat : Nat) : Int) = a by omega]
section RM
variable {A : zA} {M : zM} {B : Int} {Φ : Int → Prop}
theorem reasonFor_ok (hr : RV A (M 1)) (hv : Val B A) {k c : Int} (k0 : 0 ≤ k) (k1 : k < A 6 0) (h : Φ (reasonA A k c)) : jM_reasonFor k c M Φ := by
  have hn := hv.n
  have v6 := hv.from k k0 k1
  have v7 := hv.to k k0 k1
  have e1 := eF_rng hv k0 k1
  have e2 := fT_rng hv k0 k1
  unfold jM_reasonFor
  refine from_ok hr hv k0 k1 (to_ok hr hv k0 k1 (end_ok hr hv v6.1 v6.2 (of2_ok hr hv v7.1 v7.2 (in_ok (fun q1 q2 => ⟨fun _ => ?_, fun z => by omega⟩) (fun q => ⟨fun z => absurd rfl z, fun _ => ?_⟩)))))
  · have q1 : eF A k ≤ c := q1
    have q2 : c ≤ fT A k := q2
    refine of1_ok hr hv v6.1 v6.2 (end_ok hr hv v6.1 v6.2 ⟨by omega, within_ok hr hv (fun j j0 j1 hj => ⟨fun z => by omega, fun _ => ?_⟩) (fun hj => ⟨fun _ => ?_, fun z => absurd rfl z⟩)⟩)
    · rw [reason2 ⟨q1, q2⟩ ⟨j, j0, j1, hj⟩] at h; exact h
    · have s2 : ¬ sh2 A k c := fun ⟨j, j0, j1, t⟩ => hj j j0 j1 t
      refine of1_ok hr hv v7.1 v7.2 (of2_ok hr hv v7.1 v7.2 ⟨by have : A 4 (A 10 k) = fT A k := rfl; omega, within_ok hr hv (fun j j0 j1 hj => ⟨fun z => by omega, fun _ => ?_⟩) (fun hj => ⟨fun _ => ?_, fun z => absurd rfl z⟩)⟩)
      · rw [reason3 ⟨q1, q2⟩ s2 ⟨j, j0, j1, hj⟩] at h; exact h
      · have s3 : ¬ sh3 A k c := fun ⟨j, j0, j1, t⟩ => hj j j0 j1 t
        refine zfor1 (fun x => ∀ j, 0 ≤ j → j < x → ¬ ((min (lF A k) (lT A k) < A 3 j ∧ A 3 j < max (lF A k) (lT A k)) ∧ A 4 j ≤ c - 1 ∧ c < endA A j)) (n := A 0 0) hn.1 (fun j _ _ => by omega) (fun K hI => ?_) (fun K x x0 x1 hI hK => ?_)
        · unfold jM_reasonFor_L94
          rw [hr.n]
          refine ⟨fun _ => ?_, fun q => absurd (Int.le_refl _) q⟩
          rw [reason0 ⟨⟨q1, q2⟩, s2, s3, fun ⟨j, j0, j1, t⟩ => hI j j0 j1 t⟩] at h; exact h
        · have nx : ¬ ((min (lF A k) (lT A k) < A 3 x ∧ A 3 x < max (lF A k) (lT A k)) ∧ A 4 x ≤ c - 1 ∧ c < endA A x) → (i32 (x + 1) ∧ ∀ v : Int, v = x + 1 → K v) := fun q => ⟨by omega, fun v hv => hv ▸ hK (fun j j0 j1 => if e : j = x then e ▸ q else hI j j0 (by omega))⟩
          unfold jM_reasonFor_L94
          rw [hr.n]
          refine ⟨fun q => by omega, fun _ => of1_ok hr hv x0 x1 (of1_ok hr hv v6.1 v6.2 (of1_ok hr hv v7.1 v7.2 (isBetween_ok (fun b1 b2 => ⟨fun z => by omega, fun _ => of2_ok hr hv x0 x1 ⟨by omega, fun q3 => nx (fun z => by have := z.2.1; omega), fun q3 => end_ok hr hv x0 x1 ⟨fun q4 => nx (fun z => by have := z.2.2; omega), fun q4 => ?_⟩⟩⟩) (fun b1 => ⟨fun _ => nx (fun z => b1 z.1), fun z => absurd rfl z⟩))))⟩
          rw [reason4 ⟨q1, q2⟩ s2 s3 ⟨x, x0, x1, ⟨b1, b2⟩, by omega, by omega⟩] at h; exact h
  · have q : ¬ (eF A k ≤ c ∧ c ≤ fT A k) := q
    rw [reason1 q] at h; exact h
theorem freeBendsM_ok (hr : RV A (M 1)) (hv : Val B A) {k : Int} (k0 : 0 ≤ k) (k1 : k < A 6 0) (h : Φ (freeN A k)) : jM_freeBends k M Φ := by
  classical
  have v6 := hv.from k k0 k1
  have v7 := hv.to k k0 k1
  have e1 := eF_rng hv k0 k1
  have e2 := fT_rng hv k0 k1
  unfold jM_freeBends
  refine from_ok hr hv k0 k1 (end_ok hr hv v6.1 v6.2 ?_)
  have hlast : ∀ x, eF A k ≤ x → fT A k < x → x ≤ 200 → cntA (fun c => decide (freeP A k c)) x = freeN A k := fun x q0 q1 q2 => (cntA_const (by omega) q2 (fun j j0 j1 z => by have := (decide_eq_true_iff.mp z).1; omega)).symm
  refine zwh_run (fun s => eF A k ≤ s.2 ∧ (s.2 ≤ fT A k + 1 ∨ s.2 = eF A k) ∧ s.1 = cntA (fun c => decide (freeP A k c)) s.2) (fun s => (fT A k + 1 - s.2).toNat) ?_ (0, _) ⟨Int.le_refl _, Or.inr rfl, (cntA_zero (by show 0 ≤ eF A k; omega) (fun j j0 j1 z => by have := (decide_eq_true_iff.mp z).1; have j1 : j < eF A k := j1; omega)).symm⟩
  rintro K ⟨a, x⟩ ⟨x0, x1, ea⟩ hK
  have x0 : eF A k ≤ x := x0
  have x1 : x ≤ fT A k + 1 ∨ x = eF A k := x1
  have ea : a = cntA (fun c => decide (freeP A k c)) x := ea
  subst ea
  have hg := cntA_rng (p := fun c => decide (freeP A k c)) (n := x) (by omega)
  show jM_freeBends_L12 k K Φ M (cntA (fun c => decide (freeP A k c)) x) x
  unfold jM_freeBends_L12
  refine to_ok hr hv k0 k1 (of2_ok hr hv v7.1 v7.2 ⟨fun q => ?_, fun q => ?_⟩)
  · have q : fT A k < x := q
    rw [hlast x x0 q (by omega)]; exact h
  · have q : ¬ fT A k < x := q
    refine reasonFor_ok hr hv k0 k1 ⟨fun q2 => ⟨by omega, ?_⟩, fun q2 => ⟨by omega, ?_⟩⟩
    · rintro _ rfl
      refine ⟨by omega, ?_⟩
      rintro _ rfl
      exact hK _ ⟨by show eF A k ≤ x + 1; omega, Or.inl (by show x + 1 ≤ fT A k + 1; omega), (cntA_f (by omega) (fun z => q2 (reason0 (decide_eq_true_iff.mp z)))).symm⟩ (by show (fT A k + 1 - (x + 1)).toNat < (fT A k + 1 - x).toNat; omega)
    · rintro _ rfl
      refine ⟨by omega, ?_⟩
      rintro _ rfl
      exact hK _ ⟨by show eF A k ≤ x + 1; omega, Or.inl (by show x + 1 ≤ fT A k + 1; omega), (cntA_t (by omega) (decide_eq_true_iff.mpr (Classical.byContradiction (fun z => reason_0 z q2)))).symm⟩ (by show (fT A k + 1 - (x + 1)).toNat < (fT A k + 1 - x).toNat; omega)
theorem worth_ok (hr : RV A (M 1)) (hv : Val B A) {k c : Int} (k0 : 0 ≤ k) (k1 : k < A 6 0) (hc : eF A k ≤ c ∧ c ≤ fT A k) (h : Φ (worthA A k c)) : jM_worth k c M Φ := by
  have v6 := hv.from k k0 k1
  have v7 := hv.to k k0 k1
  have e1 := eF_rng hv k0 k1
  have e2 := fT_rng hv k0 k1
  have hs := hr.set 0 (by omega) (by omega)
  rw [show (442 : Int) + 0 = 442 by omega] at hs
  have f4 : A 4 (A 10 k) = fT A k := rfl
  have f5 : endA A (A 9 k) = eF A k := rfl
  unfold jM_worth
  refine from_ok hr hv k0 k1 (end_ok hr hv v6.1 v6.2 ⟨by omega, ?_⟩)
  rintro _ rfl
  refine to_ok hr hv k0 k1 (of2_ok hr hv v7.1 v7.2 ⟨by omega, ?_⟩)
  rintro _ rfl
  rw [hs, f4, f5]
  unfold worthA zabs at h
  refine ⟨fun q => ⟨fun q2 => ⟨fun q3 => ⟨by omega, ?_⟩, fun q3 => ⟨by omega, ?_⟩⟩, fun q2 => ?_⟩, fun q => ?_⟩
  · rw [if_neg q, if_neg q2, if_pos (by omega), show 2 * c - (eF A k + fT A k) = c - eF A k - (fT A k - c) by omega] at h; exact h
  · rw [if_neg q, if_neg q2] at h
    by_cases z : 0 ≤ 2 * c - (eF A k + fT A k)
    · omega
    · rw [if_neg z, show 0 - (2 * c - (eF A k + fT A k)) = fT A k - c - (c - eF A k) by omega] at h; exact h
  · rw [if_neg q, if_pos q2] at h; exact h
  · rw [if_pos q] at h; exact h
theorem bend_ok (hr : RV A (M 1)) (hv : Val B A) {k : Int} (k0 : 0 ≤ k) (k1 : k < A 6 0) (h : Φ (bendA A k)) : jM_bend k M Φ := by
  have v6 := hv.from k k0 k1
  have v7 := hv.to k k0 k1
  have e1 := eF_rng hv k0 k1
  have e2 := fT_rng hv k0 k1
  have fin : ∀ c, BendP A k c → Φ c := fun c hb => by rw [bendA_eq hv k0 k1 hb] at h; exact h
  have n5 : ¬ freeP A k (-5) := fun z => by have := z.1; omega
  unfold jM_bend
  refine to_ok hr hv k0 k1 (of2_ok hr hv v7.1 v7.2 (from_ok hr hv k0 k1 (end_ok hr hv v6.1 v6.2 ?_)))
  refine zwh_run (fun s => eF A k ≤ s.2 ∧ (s.2 ≤ fT A k + 1 ∨ s.2 = eF A k) ∧ BestP A k s.1 s.2) (fun s => (fT A k + 1 - s.2).toNat) ?_ (-5, _) ⟨Int.le_refl _, Or.inr rfl, Or.inl ⟨rfl, fun d hd hf => by have := hf.1; have hd : d < eF A k := hd; omega⟩⟩
  rintro K ⟨a, x⟩ ⟨x0, x1, hbest⟩ hK
  have x0 : eF A k ≤ x := x0
  have x1 : x ≤ fT A k + 1 ∨ x = eF A k := x1
  have hbest : BestP A k a x := hbest
  show jM_bend_L25 k K Φ (fT A k) M a x
  have nx : ∀ a', x ≤ fT A k → BestP A k a' (x + 1) → (i32 (x + 1) ∧ ∀ v : Int, v = x + 1 → K (a', v)) := fun a' q1 q2 => ⟨by omega, fun v hv => hv ▸ hK (a', x + 1) ⟨by show eF A k ≤ x + 1; omega, Or.inl (by show x + 1 ≤ fT A k + 1; omega), q2⟩ (by show (fT A k + 1 - (x + 1)).toNat < (fT A k + 1 - x).toNat; omega)⟩
  have keep : x ≤ fT A k → BestP A k a (x + 1) → jM_bend_J67 k K Φ a (fT A k) x M := fun q1 q2 => ⟨fun _ => nx a q1 q2, fun z => absurd rfl z⟩
  have take : x ≤ fT A k → BestP A k x (x + 1) → jM_bend_J63 k K Φ a (fT A k) x M := fun q1 q2 => ⟨fun z => by omega, fun _ => nx x q1 q2⟩
  unfold jM_bend_L25
  refine ⟨fun q => fin a (best_end hbest (fun d hd hf => by have := hf.1; omega)), fun q => reasonFor_ok hr hv k0 k1 ⟨fun q2 => keep (by omega) (best_skip hbest (fun z => q2 (reason0 z))), fun q2 => ?_⟩⟩
  have hf : freeP A k x := Classical.byContradiction (fun z => reason_0 z q2)
  refine ⟨fun q3 => take (by omega) (best_take hbest hf (Or.inl q3) (fun _ => q3 ▸ n5)), fun q3 => ?_⟩
  have ra : eF A k ≤ a ∧ a ≤ fT A k := by
    rcases hbest with ⟨e, _⟩ | ⟨l, f, _⟩
    · exact absurd e q3
    · exact f.1
  exact worth_ok hr hv k0 k1 hf.1 (worth_ok hr hv k0 k1 ra ⟨fun q4 => keep (by omega) (best_keep hbest hf q3 q4), fun q4 => take (by omega) (best_take hbest hf (Or.inr (by omega)) (fun e => absurd e q3))⟩)
theorem bendA_P (hv : Val B A) {k : Int} (k0 : 0 ≤ k) (k1 : k < A 6 0) : BendP A k (bendA A k) := by
  have e1 := eF_rng hv k0 k1
  -- a search over the days finds one
  have key : ∀ n : Nat, ∃ a, BestP A k a n := by
    intro n
    induction n with
    | zero => exact ⟨-5, Or.inl ⟨rfl, fun d hd hf => by have := hf.1; have hd : d < ((0 : Nat) : Int) := hd; omega⟩⟩
    | succ n ih =>
      obtain ⟨a, ha⟩ := ih
      by_cases hf : freeP A k n
      · by_cases e : a = -5
        · exact ⟨n, best_take ha hf (Or.inl e) (fun _ => fun z => by have := (e ▸ z).1; omega)⟩
        · by_cases w : worthA A k a ≤ worthA A k n
          · exact ⟨a, best_keep ha hf e w⟩
          · exact ⟨n, best_take ha hf (Or.inr (by omega)) (fun q => absurd q e)⟩
      · exact ⟨a, best_skip ha hf⟩
  obtain ⟨a, ha⟩ := key 200
  have hb := best_end ha (fun d hd hf => by have := hf.1; have := fT_rng hv k0 k1; have hd : ((200 : Nat) : Int) ≤ d := hd; omega)
  rw [bendA_eq hv k0 k1 hb]
  exact hb
def BendsP (A : zA) (M : zM) : Prop := ∀ k, 0 ≤ k → k < A 6 0 → M 6 k = bendA A k
theorem layBends_ok (hr : RV A (M 1)) (hv : Val B A) {Φ : zM → Prop} (h : ∀ M', (∀ a, a ≠ 6 → M' a = M a) → BendsP A M' → Φ M') : jM_layBends M Φ := by
  have ha := hv.a
  unfold jM_layBends
  refine zwh_run (fun s => 0 ≤ s.1 ∧ s.1 ≤ A 6 0 ∧ (∀ a, a ≠ 6 → s.2 a = M a) ∧ ∀ k, 0 ≤ k → k < s.1 → s.2 6 k = bendA A k) (fun s => (A 6 0 - s.1).toNat) ?_ (0, M) ⟨Int.le_refl 0, ha.1, fun _ _ => rfl, fun k k0 k1 => by have k1 : k < 0 := k1; omega⟩
  rintro K ⟨x, M1⟩ ⟨x0, x1, hs, hb⟩ hK
  have x0 : 0 ≤ x := x0
  have x1 : x ≤ A 6 0 := x1
  have hs : ∀ a, a ≠ 6 → M1 a = M a := hs
  have hr1 : RV A (M1 1) := by rw [hs 1 (by omega)]; exact hr
  show jM_layBends_L2 K Φ x M1
  unfold jM_layBends_L2
  rw [hr1.a]
  refine ⟨fun q => h M1 hs (fun k k0 k1 => hb k k0 (by show k < x; omega)), fun q => bend_ok hr1 hv x0 (by omega) ⟨by omega, by omega, ?_⟩⟩
  rintro _ rfl
  refine ⟨by omega, ?_⟩
  rintro _ rfl
  refine hK (x + 1, _) ⟨by show 0 ≤ x + 1; omega, by show x + 1 ≤ A 6 0; omega, fun a ha => by rw [← hs a ha]; exact zup_other ha, fun k k0 k1 => ?_⟩ (by show (A 6 0 - (x + 1)).toNat < (A 6 0 - x).toNat; omega)
  show zup M1 6 x (bendA A x) 6 k = bendA A k
  have k1 : k < x + 1 := k1
  unfold zup
  by_cases e : k = x
  · subst e; rw [if_pos ⟨rfl, rfl⟩]
  · rw [if_neg (by omega)]; exact hb k k0 (by show k < x; omega)
theorem goes_two {o w d : Int} (hb : eF A o ≤ bendA A o ∧ bendA A o ≤ fT A o) : (goesP A o w d ∧ goesP A o w (d + 1)) ↔ ((lF A o = w ∨ lT A o = w) ∧ (lF A o = w → eF A o ≤ d) ∧ (¬ lF A o = w → bendA A o ≤ d) ∧ (lT A o = w → d + 1 ≤ fT A o - 1) ∧ (¬ lT A o = w → d + 1 ≤ bendA A o - 1)) := by
  unfold goesP
  constructor
  · rintro ⟨⟨g1, g2⟩, g3, g4⟩
    rcases Int.lt_or_le d (bendA A o) with q | q <;> rcases Int.lt_or_le (d + 1) (bendA A o) with q2 | q2
    · have := g1 q; have := g3 q2; refine ⟨?_, ?_, ?_, ?_, ?_⟩ <;> omega
    · have := g1 q; have := g4 q2; refine ⟨?_, ?_, ?_, ?_, ?_⟩ <;> omega
    · omega
    · have := g2 q; have := g4 q2; refine ⟨?_, ?_, ?_, ?_, ?_⟩ <;> omega
  · rintro ⟨h1, h2, h3, h4, h5⟩
    by_cases a : lF A o = w <;> by_cases b : lT A o = w
    · have := h2 a; have := h4 b; refine ⟨⟨fun _ => ?_, fun _ => ?_⟩, fun _ => ?_, fun _ => ?_⟩ <;> omega
    · have := h2 a; have := h5 b; refine ⟨⟨fun _ => ?_, fun _ => ?_⟩, fun _ => ?_, fun _ => ?_⟩ <;> omega
    · have := h3 a; have := h4 b; refine ⟨⟨fun _ => ?_, fun _ => ?_⟩, fun _ => ?_, fun _ => ?_⟩ <;> omega
    · omega
theorem goesM_ok (hr : RV A (M 1)) (hv : Val B A) (hb : BendsP A M) {o w d : Int} (h0 : 0 ≤ o) (h1 : o < A 6 0) (ho : bendA A o ≠ -5) (hd : i32 (d + 1)) (ht : goesP A o w d ∧ goesP A o w (d + 1) → Φ 1) (hf : ¬ (goesP A o w d ∧ goesP A o w (d + 1)) → Φ 0) : jM_goesAlong o w d M Φ := by
  have ha := hv.a
  have v6 := hv.from o h0 h1
  have v7 := hv.to o h0 h1
  have e1 := eF_rng hv h0 h1
  have e2 := fT_rng hv h0 h1
  have br := bendP_rng (bendA_P hv h0 h1) ho
  rw [goes_two br] at ht hf
  have f4 : A 4 (A 10 o) = fT A o := rfl
  unfold jM_goesAlong
  refine from_ok hr hv h0 h1 (end_ok hr hv v6.1 v6.2 (to_ok hr hv h0 h1 (of2_ok hr hv v7.1 v7.2 ⟨by omega, ?_⟩)))
  rintro _ rfl
  refine ⟨by omega, by omega, ?_⟩
  rw [hb o h0 h1, f4]
  rintro _ rfl
  have last : ∀ lo hi : Int, (lo ≤ d → d + 1 ≤ hi → Φ 1) → (¬ (lo ≤ d ∧ d + 1 ≤ hi) → Φ 0) → jM_goesAlong_J115 o w d Φ lo hi M := fun lo hi p n => ⟨fun q => n (by omega), fun q => ⟨by omega, fun q2 => n (by omega), fun q2 => p (by omega) (by omega)⟩⟩
  refine from_ok hr hv h0 h1 (of1_ok hr hv v6.1 v6.2 ⟨fun qa => ?_, fun qa => ?_⟩)
  · have qa : ¬ lF A o = w := qa
    refine to_ok hr hv h0 h1 (of1_ok hr hv v7.1 v7.2 ⟨fun qb => ⟨fun _ => ⟨fun _ => ⟨by omega, ⟨fun z => absurd rfl z, fun _ => ⟨fun _ => ?_, fun z => absurd rfl z⟩⟩⟩, fun z => absurd rfl z⟩, fun z => absurd rfl z⟩, fun qb => ⟨fun _ => ⟨fun z => by omega, fun _ => ⟨fun z => absurd rfl z, fun _ => ⟨fun z => by omega, fun _ => ?_⟩⟩⟩, fun z => absurd rfl z⟩⟩)
    · have qb : ¬ lT A o = w := qb
      exact hf (fun z => by have := z.1; omega)
    · have qb : lT A o = w := qb
      exact last _ _ (fun p1 p2 => ht ⟨Or.inr qb, fun z => absurd z qa, fun _ => p1, fun _ => p2, fun z => absurd qb z⟩) (fun n => hf (fun z => n ⟨z.2.2.1 qa, z.2.2.2.1 qb⟩))
  · have qa : lF A o = w := qa
    refine to_ok hr hv h0 h1 (of1_ok hr hv v7.1 v7.2 ⟨fun qb => ⟨fun z => by omega, fun _ => ⟨fun _ => ⟨by omega, ⟨fun _ => ?_, fun z => by omega⟩⟩, fun z => absurd rfl z⟩⟩, fun qb => ⟨fun z => by omega, fun _ => ⟨fun z => by omega, fun _ => ⟨fun _ => ?_, fun z => by omega⟩⟩⟩⟩)
    · have qb : ¬ lT A o = w := qb
      exact last _ _ (fun p1 p2 => ht ⟨Or.inl qa, fun _ => p1, fun z => absurd qa z, fun z => absurd z qb, fun _ => p2⟩) (fun n => hf (fun z => n ⟨z.2.1 qa, z.2.2.2.2 qb⟩))
    · have qb : lT A o = w := qb
      exact last _ _ (fun p1 p2 => ht ⟨Or.inl qa, fun _ => p1, fun z => absurd qa z, fun _ => p2, fun z => absurd qb z⟩) (fun n => hf (fun z => n ⟨z.2.1 qa, z.2.2.2.1 qb⟩))
theorem cross_self (k : Int) : ¬ crossP A k k := by
  rintro ⟨_, _, w, _, _, hp⟩
  have := pass_lane hp
  have := hp.1
  omega
theorem pass_uniq {k o w w' : Int} (h : passP A k o w) (h' : passP A k o w') : w = w' := by
  rcases Int.lt_or_le (bendA A k) (bendA A o) with q | q
  · have := (h.2.2.1 q).1; have := (h'.2.2.1 q).1; omega
  · have := (h.2.2.2 q).1; have := (h'.2.2.2 q).1; omega
theorem points_ok (hr : RV A (M 1)) (hv : Val B A) (hb : BendsP A M) {k o : Int} (k0 : 0 ≤ k) (k1 : k < A 6 0) (h0 : 0 ≤ o) (h1 : o < A 6 0) (h : Φ (crossN A k o)) : jM_points k o M Φ := by
  classical
  have ha := hv.a
  have v6 := hv.from k k0 k1
  have v7 := hv.to k k0 k1
  have none : crossN A k o = 0 → ∀ x : Int, (0 ≤ x) → (cntA (fun w => decide (crossN A k o = 1 ∧ passP A k o w)) x = 0) := fun e x hx => cntA_zero hx (fun j j0 j1 z => by have := (decide_eq_true_iff.mp z).1; omega)
  have full : cntA (fun w => decide (crossN A k o = 1 ∧ passP A k o w)) 12 = crossN A k o := by
    by_cases hc : crossP A k o
    · have hc2 := hc
      obtain ⟨_, _, w, w0, w1, hp⟩ := hc2
      rw [crossN_t hc]
      exact cnt_uniq w0 w1 (decide_eq_true_iff.mpr ⟨rfl, hp⟩) (fun j j0 j1 z => pass_uniq (decide_eq_true_iff.mp z).2 hp)
    · rw [none (crossN_f hc) 12 (by omega), crossN_f hc]
  unfold jM_points
  refine zfor2 (fun x => cntA (fun w => decide (crossN A k o = 1 ∧ passP A k o w)) x) (n := 12) (by omega) rfl (fun K => ?_) (fun K x x0 x1 hK => ?_)
  · refine ⟨fun _ => ?_, fun q => absurd (Int.le_refl _) q⟩
    show Φ (cntA (fun w => decide (crossN A k o = 1 ∧ passP A k o w)) 12)
    rw [full]; exact h
  · show jM_points_L5 k o K Φ M (cntA (fun w => decide (crossN A k o = 1 ∧ passP A k o w)) x) x
    have hg := cntA_rng (p := fun w => decide (crossN A k o = 1 ∧ passP A k o w)) x0
    have out : ¬ crossP A k o → Φ (cntA (fun w => decide (crossN A k o = 1 ∧ passP A k o w)) x) := fun z => by rw [none (crossN_f z) x x0]; rw [crossN_f z] at h; exact h
    unfold jM_points_L5
    rw [hb k k0 k1, hb o h0 h1]
    refine ⟨fun q => by omega, fun q => ⟨fun e => out (fun z => cross_self (A := A) k (by rw [← e] at z; exact z)), fun e => ⟨by omega, by omega, fun q1 => out (fun z => z.1 q1), fun q1 => ⟨by omega, by omega, fun q2 => out (fun z => z.2.1 q2), fun q2 => ?_⟩⟩⟩⟩
    have br := bendP_rng (bendA_P hv k0 k1) q1
    have e1 := eF_rng hv k0 k1
    have e2 := fT_rng hv k0 k1
    have no : ¬ passP A k o x → jM_points_J90 k o K Φ (cntA (fun w => decide (crossN A k o = 1 ∧ passP A k o w)) x) x M := by
      intro z
      refine ⟨fun _ => ⟨by omega, ?_⟩, fun z => absurd rfl z⟩
      rintro _ rfl
      refine ⟨by omega, ?_⟩
      rintro _ rfl
      rw [cntA_f x0 (fun t => z (decide_eq_true_iff.mp t).2)] at hK
      exact hK
    refine from_ok hr hv k0 k1 (of1_ok hr hv v6.1 v6.2 (to_ok hr hv k0 k1 (of1_ok hr hv v7.1 v7.2 (isBetween_ok (fun b1 b2 => ⟨fun z => by omega, fun _ => ⟨by omega, by omega, by omega, goesM_ok hr hv hb h0 h1 q2 (by omega) (fun g => ⟨fun z => by omega, fun _ => ?_⟩) (fun g => ⟨fun _ => no (fun z => g ⟨z.2.1, by rw [show bendA A k - 1 + 1 = bendA A k by omega]; exact z.2.2⟩), fun z => absurd rfl z⟩)⟩⟩) (fun b1 => ⟨fun _ => no (fun z => b1 z.1), fun z => absurd rfl z⟩)))))
    have hp : passP A k o x := ⟨⟨b1, b2⟩, g.1, by have := g.2; rw [show bendA A k - 1 + 1 = bendA A k by omega] at this; exact this⟩
    have hcr : crossP A k o := ⟨q1, q2, x, x0, by omega, hp⟩
    refine ⟨fun z => by omega, fun _ => ⟨by omega, ?_⟩⟩
    rintro _ rfl
    refine ⟨by omega, ?_⟩
    rintro _ rfl
    rw [cntA_t x0 (decide_eq_true_iff.mpr ⟨crossN_t hcr, hp⟩)] at hK
    exact hK
theorem allPoints_ok (hr : RV A (M 1)) (hv : Val B A) {Φ : Int → zM → Prop} (h : ∀ M', (∀ a, a ≠ 6 → M' a = M a) → Φ (ptsA A) M') : jM_allPoints M Φ := by
  have ha := hv.a
  unfold jM_allPoints
  refine layBends_ok hr hv (fun M1 hs hb => ?_)
  have hr1 : RV A (M1 1) := by rw [hs 1 (by omega)]; exact hr
  have sq : 0 ≤ A 6 0 * A 6 0 ∧ A 6 0 * A 6 0 ≤ 1600 := ⟨Int.mul_nonneg ha.1 ha.1, by have := Int.mul_le_mul ha.2 ha.2 ha.1 (by omega); omega⟩
  have crng : ∀ x, 0 ≤ x → x ≤ A 6 0 * A 6 0 → 0 ≤ sumI (fun q => crossN A (q / A 6 0) (q % A 6 0)) x ∧ sumI (fun q => crossN A (q / A 6 0) (q % A 6 0)) x ≤ 1 * x := fun x x0 x1 => sumI_rng x0 (fun j _ _ => crossN_rng _ _)
  refine zfor2 (fun x => sumI (fun q => crossN A (q / A 6 0) (q % A 6 0)) x) (n := A 6 0 * A 6 0) sq.1 rfl (fun K => ?_) (fun K x x0 x1 hK => ?_)
  · show jM_allPoints_L8 K Φ M1 (sumI (fun q => crossN A (q / A 6 0) (q % A 6 0)) (A 6 0 * A 6 0)) (A 6 0 * A 6 0)
    unfold jM_allPoints_L8
    rw [hr1.a]
    refine ⟨by omega, fun _ => ?_, fun q => absurd (Int.le_refl _) q⟩
    have e : sumI (fun q => crossN A (q / A 6 0) (q % A 6 0)) (A 6 0 * A 6 0) = ptsA A := by
      by_cases z : A 6 0 = 0
      · unfold ptsA; rw [z]; rfl
      · have := sum_sq (fun i j => crossN A i j) (a := A 6 0) (by omega) (A 6 0).toNat
        rw [show (((A 6 0).toNat : Nat) : Int) = A 6 0 by omega] at this
        exact this
    rw [e]
    exact h M1 hs
  · show jM_allPoints_L8 K Φ M1 (sumI (fun q => crossN A (q / A 6 0) (q % A 6 0)) x) x
    have g := crng x x0 (Int.le_of_lt x1)
    have pos : 0 < A 6 0 := by
      rcases Int.lt_or_le 0 (A 6 0) with q | q
      · exact q
      · have : A 6 0 = 0 := by omega
        rw [this] at x1
        omega
    unfold jM_allPoints_L8
    rw [hr1.a]
    have d1 : 0 ≤ x / A 6 0 := Int.ediv_nonneg x0 (by omega)
    have d2 : x / A 6 0 < A 6 0 := Int.ediv_lt_of_lt_mul pos x1
    have d3 : 0 ≤ x % A 6 0 := Int.emod_nonneg _ (by omega)
    have d4 : x % A 6 0 < A 6 0 := Int.emod_lt_of_pos _ pos
    have cr := crossN_rng (A := A) (x / A 6 0) (x % A 6 0)
    refine ⟨by omega, fun q => by omega, fun q => ⟨x0, pos, x0, pos, points_ok hr1 hv hb d1 d2 d3 d4 ⟨by omega, ?_⟩⟩⟩
    rintro _ rfl
    refine ⟨by omega, ?_⟩
    rintro _ rfl
    rw [sumI_s _ x0] at hK
    exact hK
theorem pointsOfM_ok (hr : RV A (M 1)) (hv : Val B A) {k : Int} (k0 : 0 ≤ k) (k1 : k < A 6 0) {Φ : Int → zM → Prop} (h : ∀ M', (∀ a, a ≠ 6 → M' a = M a) → Φ (ptsOf A k) M') : jM_pointsOf k M Φ := by
  have ha := hv.a
  unfold jM_pointsOf
  refine layBends_ok hr hv (fun M1 hs hb => ?_)
  have hr1 : RV A (M1 1) := by rw [hs 1 (by omega)]; exact hr
  refine zfor2 (fun x => sumI (fun o => crossN A k o + crossN A o k) x) (n := A 6 0) ha.1 rfl (fun K => ?_) (fun K x x0 x1 hK => ?_)
  · show jM_pointsOf_L8 k K Φ M1 (ptsOf A k) (A 6 0)
    unfold jM_pointsOf_L8
    rw [hr1.a]
    exact ⟨fun _ => h M1 hs, fun q => absurd (Int.le_refl _) q⟩
  · show jM_pointsOf_L8 k K Φ M1 (sumI (fun o => crossN A k o + crossN A o k) x) x
    have g1 := ptsOf_part hv k x0 (Int.le_of_lt x1)
    have r1 := crossN_rng (A := A) k x
    have r2 := crossN_rng (A := A) x k
    unfold jM_pointsOf_L8
    rw [hr1.a]
    refine ⟨fun q => by omega, fun q => points_ok hr1 hv hb k0 k1 x0 x1 (points_ok hr1 hv hb x0 x1 k0 k1 ⟨by omega, by omega, ?_⟩)⟩
    rintro _ rfl
    refine ⟨by omega, ?_⟩
    rintro _ rfl
    rw [sumI_s _ x0] at hK
    exact hK
theorem notDrawn_ok (hr : RV A (M 1)) (hv : Val B A) (h : Φ (undrA A)) : jM_notDrawn M Φ := by
  have ha := hv.a
  unfold jM_notDrawn jM_arrowsThat
  refine zfor2 (fun x => cntA (fun k => decide (bendA A k = -5)) x) (n := A 6 0) ha.1 rfl (fun K => ?_) (fun K x x0 x1 hK => ?_)
  · show jM_arrowsThat_L4 0 K _ M (undrA A) (A 6 0)
    unfold jM_arrowsThat_L4
    rw [hr.a]
    exact ⟨fun _ => h, fun q => absurd (Int.le_refl _) q⟩
  · show jM_arrowsThat_L4 0 K _ M (cntA (fun k => decide (bendA A k = -5)) x) x
    have hg := cntA_rng (p := fun k => decide (bendA A k = -5)) x0
    unfold jM_arrowsThat_L4
    rw [hr.a]
    refine ⟨fun q => by omega, fun q => ⟨fun _ => bend_ok hr hv x0 x1 ⟨fun q2 => ⟨by omega, ?_⟩, fun q2 => ⟨by omega, ?_⟩⟩, fun z => absurd rfl z⟩⟩
    · rintro _ rfl
      refine ⟨by omega, ?_⟩
      rintro _ rfl
      rw [cntA_f x0 (by rw [decide_eq_true_iff]; exact q2)] at hK
      exact hK
    · rintro _ rfl
      refine ⟨by omega, ?_⟩
      rintro _ rfl
      rw [cntA_t x0 (by rw [decide_eq_true_iff]; exact q2)] at hK
      exact hK
theorem lateArrowsM_ok (hr : RV A (M 1)) (hv : Val B A) (h : Φ (lateN A)) : jM_arrowsThat 1 M Φ := by
  have ha := hv.a
  unfold jM_arrowsThat
  refine zfor2 (fun x => cntA (fun k => decide (0 < lateA A k)) x) (n := A 6 0) ha.1 rfl (fun K => ?_) (fun K x x0 x1 hK => ?_)
  · show jM_arrowsThat_L4 1 K Φ M (lateN A) (A 6 0)
    unfold jM_arrowsThat_L4
    rw [hr.a]
    exact ⟨fun _ => h, fun q => absurd (Int.le_refl _) q⟩
  · show jM_arrowsThat_L4 1 K Φ M (cntA (fun k => decide (0 < lateA A k)) x) x
    have hg := cntA_rng (p := fun k => decide (0 < lateA A k)) x0
    unfold jM_arrowsThat_L4
    rw [hr.a]
    refine ⟨fun q => by omega, fun q => ⟨fun z => by omega, fun _ => lateByM_ok hr hv x0 x1 ⟨fun q2 => ⟨by omega, ?_⟩, fun q2 => ⟨by omega, ?_⟩⟩⟩⟩
    · rintro _ rfl
      refine ⟨by omega, ?_⟩
      rintro _ rfl
      rw [cntA_f x0 (by rw [decide_eq_true_iff]; omega)] at hK
      exact hK
    · rintro _ rfl
      refine ⟨by omega, ?_⟩
      rintro _ rfl
      rw [cntA_t x0 (by rw [decide_eq_true_iff]; omega)] at hK
      exact hK
end RM
