/-! bends and points, the reference's side -/
theorem cnt_uniq {p : Int → Bool} {n w : Int} (w0 : 0 ≤ w) (w1 : w < n) (hp : p w = true) (hu : ∀ j, 0 ≤ j → j < n → p j = true → j = w) : cntA p n = 1 := by
  rw [cntA_const (m := w + 1) (by omega) (by omega) (fun j j0 j1 z => by have := hu j (by omega) j1 z; omega), cntA_t w0 hp, cntA_zero w0 (fun j j0 j1 z => by have := hu j j0 (by omega) z; omega)]
  omega
theorem sum_row (f : Int → Int → Int) {a : Int} (ha : 0 < a) {m : Int} (hm : 0 ≤ m) : ∀ t : Nat, (t : Int) ≤ a → sumI (fun q => f (q / a) (q % a)) (m * a + t) = sumI (fun q => f (q / a) (q % a)) (m * a) + sumI (f m) t
  | 0, _ => by
    show sumI _ (m * a + 0) = _ + 0
    rw [Int.add_zero, Int.add_zero]
  | t + 1, h => by
    have ih := sum_row f ha hm t (by omega)
    have hma : 0 ≤ m * a := Int.mul_nonneg hm (by omega)
    rw [show m * a + ((t + 1 : Nat) : Int) = m * a + t + 1 by omega, sumI_s _ (by omega), ih, show ((t + 1 : Nat) : Int) = (t : Int) + 1 by omega, sumI_s _ (by omega)]
    have e1 : (m * a + t) / a = m := by
      rw [Int.mul_comm, Int.mul_add_ediv_left _ _ (by omega), Int.ediv_eq_zero_of_lt (by omega) (by omega)]
      omega
    have e2 : (m * a + t) % a = t := by
      rw [Int.mul_comm, Int.mul_add_emod_self_left, Int.emod_eq_of_lt (by omega) (by omega)]
    rw [e1, e2]
    omega
theorem sum_sq (f : Int → Int → Int) {a : Int} (ha : 0 < a) : ∀ m : Nat, sumI (fun q => f (q / a) (q % a)) ((m : Int) * a) = sumI (fun i => sumI (f i) a) m
  | 0 => by
    show sumI _ (0 * a) = 0
    rw [Int.zero_mul]
    rfl
  | m + 1 => by
    have ih := sum_sq f ha m
    rw [show ((m + 1 : Nat) : Int) * a = (m : Int) * a + (a.toNat : Nat) by rw [show ((m + 1 : Nat) : Int) = (m : Int) + 1 by omega, Int.add_mul, Int.one_mul]; omega, sum_row f ha (by omega) a.toNat (by omega), ih, show ((m + 1 : Nat) : Int) = (m : Int) + 1 by omega, sumI_s _ (by omega), show ((a.toNat : Nat) : Int) = a by omega]
section RM
variable {A : zA} {M : zM} {B : Int} {Φ : Int → Prop}
theorem bendA_P (hv : Val B A) {k : Int} (k0 : 0 ≤ k) (k1 : k < A 6 0) : BendP A k (bendA A k) := by
  have e1 := eF_rng hv k0 k1
  -- a search over the days finds one
  have key : ∀ n : Nat, ∃ a, BestP A k a n := by
    intro n
    induction n with
    | zero => exact ⟨-5, Or.inl ⟨rfl, fun d hd hf => by have := hf.1; have hd : d < ((0 : Nat) : Int) := hd; omega⟩⟩
    | succ n ih =>
      obtain ⟨a, ha⟩ := ih
      by_cases hf : freeP A k n
      · by_cases e : a = -5
        · exact ⟨n, best_take ha hf (Or.inl e) (fun _ => fun z => by have := (e ▸ z).1; omega)⟩
        · by_cases w : worthA A k a ≤ worthA A k n
          · exact ⟨a, best_keep ha hf e w⟩
          · exact ⟨n, best_take ha hf (Or.inr (by omega)) (fun q => absurd q e)⟩
      · exact ⟨a, best_skip ha hf⟩
  obtain ⟨a, ha⟩ := key 200
  have hb := best_end ha (fun d hd hf => by have := hf.1; have := fT_rng hv k0 k1; have hd : ((200 : Nat) : Int) ≤ d := hd; omega)
  rw [bendA_eq hv k0 k1 hb]
  exact hb
def BendsP (A : zA) (M : zM) : Prop := ∀ k, 0 ≤ k → k < A 6 0 → M 6 k = bendA A k
theorem goes_two {o w d : Int} (hb : eF A o ≤ bendA A o ∧ bendA A o ≤ fT A o) : (goesP A o w d ∧ goesP A o w (d + 1)) ↔ ((lF A o = w ∨ lT A o = w) ∧ (lF A o = w → eF A o ≤ d) ∧ (¬ lF A o = w → bendA A o ≤ d) ∧ (lT A o = w → d + 1 ≤ fT A o - 1) ∧ (¬ lT A o = w → d + 1 ≤ bendA A o - 1)) := by
  unfold goesP
  constructor
  · rintro ⟨⟨g1, g2⟩, g3, g4⟩
    rcases Int.lt_or_le d (bendA A o) with q | q <;> rcases Int.lt_or_le (d + 1) (bendA A o) with q2 | q2
    · have := g1 q; have := g3 q2; refine ⟨?_, ?_, ?_, ?_, ?_⟩ <;> omega
    · have := g1 q; have := g4 q2; refine ⟨?_, ?_, ?_, ?_, ?_⟩ <;> omega
    · omega
    · have := g2 q; have := g4 q2; refine ⟨?_, ?_, ?_, ?_, ?_⟩ <;> omega
  · rintro ⟨h1, h2, h3, h4, h5⟩
    by_cases a : lF A o = w <;> by_cases b : lT A o = w
    · have := h2 a; have := h4 b; refine ⟨⟨fun _ => ?_, fun _ => ?_⟩, fun _ => ?_, fun _ => ?_⟩ <;> omega
    · have := h2 a; have := h5 b; refine ⟨⟨fun _ => ?_, fun _ => ?_⟩, fun _ => ?_, fun _ => ?_⟩ <;> omega
    · have := h3 a; have := h4 b; refine ⟨⟨fun _ => ?_, fun _ => ?_⟩, fun _ => ?_, fun _ => ?_⟩ <;> omega
    · omega
theorem cross_self (k : Int) : ¬ crossP A k k := by
  rintro ⟨_, _, w, _, _, hp⟩
  have := pass_lane hp
  have := hp.1
  omega
theorem pass_uniq {k o w w' : Int} (h : passP A k o w) (h' : passP A k o w') : w = w' := by
  rcases Int.lt_or_le (bendA A k) (bendA A o) with q | q
  · have := (h.2.2.1 q).1; have := (h'.2.2.1 q).1; omega
  · have := (h.2.2.2 q).1; have := (h'.2.2.2 q).1; omega
end RM

