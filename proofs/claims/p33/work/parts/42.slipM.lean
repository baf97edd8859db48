/-! slipping; the reference's side -/
theorem sumN_lt {f g : Int → Int} : ∀ {n : Nat}, (∀ j : Int, 0 ≤ j → j < n → g j ≤ f j) → (∃ j : Int, 0 ≤ j ∧ j < n ∧ g j < f j) → sumN g n < sumN f n
  | 0, _, h => by obtain ⟨j, j0, j1, _⟩ := h; omega
  | n + 1, h, hx => by
    show sumN g n + g n < sumN f n + f n
    have hn := h n (by omega) (by omega)
    have le : sumN g n ≤ sumN f n := by
      have : ∀ m : Nat, m ≤ n → sumN g m ≤ sumN f m := by
        intro m
        induction m with
        | zero => intro _; exact Int.le_refl _
        | succ m ih => intro hm; have := ih (by omega); have := h m (by omega) (by omega); show sumN g m + g m ≤ sumN f m + f m; omega
      exact this n (Nat.le_refl n)
    obtain ⟨j, j0, j1, j2⟩ := hx
    by_cases e : j = n
    · subst e; omega
    · have := sumN_lt (n := n) (fun k k0 k1 => h k k0 (by omega)) ⟨j, j0, by omega, j2⟩
      omega
theorem sumI_lt {f g : Int → Int} {n : Int} (h : ∀ j, 0 ≤ j → j < n → g j ≤ f j) (hx : ∃ j, 0 ≤ j ∧ j < n ∧ g j < f j) : sumI g n < sumI f n := by
  obtain ⟨j, j0, j1, j2⟩ := hx
  exact sumN_lt (fun k k0 k1 => h k k0 (by omega)) ⟨j, j0, by omega, j2⟩
theorem sumI_nn {f : Int → Int} {n : Int} (h : ∀ j, 0 ≤ j → j < n → 0 ≤ f j) : 0 ≤ sumI f n := by
  have : ∀ m : Nat, (m : Int) ≤ n → 0 ≤ sumN f m := by
    intro m
    induction m with
    | zero => intro _; exact Int.le_refl _
    | succ m ih => intro hm; have := ih (by omega); have := h m (by omega) (by omega); show 0 ≤ sumN f m + f m; omega
  rcases Int.le_total 0 n with q | q
  · exact this n.toNat (by omega)
  · unfold sumI; rw [show n.toNat = 0 by omega]; exact Int.le_refl _
def movedN (A : zA) (D : Int → Int) : Int := cntA (fun j => decide (D j ≠ A 4 j)) (A 0 0)
def slidN (A : zA) (D : Int → Int) : Int := sumI (fun j => D j - A 4 j) (A 0 0)
def slipA (A : zA) (D : Int → Int) : zA := fun k j => if k = 4 ∧ 0 ≤ j ∧ j < A 0 0 then D j else if k = 13 ∧ j = 0 then A 13 0 + slidN A D else A k j
theorem slipA_4 {A : zA} {D : Int → Int} {j : Int} (j0 : 0 ≤ j) (j1 : j < A 0 0) : slipA A D 4 j = D j := by unfold slipA; rw [if_pos ⟨rfl, j0, j1⟩]
theorem slipA_13 {A : zA} {D : Int → Int} : slipA A D 13 0 = A 13 0 + slidN A D := by unfold slipA; rw [if_neg (by omega), if_pos ⟨rfl, rfl⟩]
theorem slipA_o {A : zA} {D : Int → Int} {k : Nat} {j : Int} (h1 : k ≠ 4) (h2 : k ≠ 13) : slipA A D k j = A k j := by unfold slipA; rw [if_neg (by omega), if_neg (by omega)]
section RM
variable {A : zA} {M : zM} {B : Int}
theorem fdA_nn (hv : Val B A) {a d j : Int} (d0 : 0 ≤ d) (j0 : 0 ≤ j) (j1 : j < A 0 0) : A 4 j ≤ fdA A a d j ∧ 0 ≤ fdA A a d j := by
  have := hv.day j j0 j1
  by_cases e : j = a
  · unfold fdA; rw [if_pos e]; omega
  · unfold fdA; rw [if_neg e]; omega
theorem slip_eq (hv : Val B A) {a d : Int} {F D : Int → Int} (hD : SlipP A a d D) (h1 : ∀ j, 0 ≤ j → j < A 0 0 → fdA A a d j ≤ F j ∧ F j ≤ D j) (h2 : ∀ i j, 0 ≤ i → i < A 0 0 → 0 ≤ j → j < A 0 0 → pushP A i j → F i + A 5 i ≤ F j) : ∀ j, 0 ≤ j → j < A 0 0 → F j = D j := by
  have key : ∀ m : Nat, ∀ j, 0 ≤ j → j < A 0 0 → A 4 j < m → F j = D j := by
    intro m
    induction m with
    | zero => intro j j0 j1 hm; have := hv.day j j0 j1; omega
    | succ m ih =>
      intro j j0 j1 hm
      have f := h1 j j0 j1
      rcases (hD.1 j j0 j1).2.2 with e | ⟨i, i0, i1, hp, e⟩
      · omega
      · have lt := push_lt hv i0 i1 j0 j1 hp
        have := ih i i0 i1 (by omega)
        have := h2 i j i0 i1 j0 j1 hp
        omega
  intro j j0 j1
  have := hv.day j j0 j1
  exact key 200 j j0 j1 (by omega)
def SlM (A : zA) (M M' : zM) (a d : Int) (D : Int → Int) : Prop := (∀ q, q ≠ 1 → q ≠ 7 → M' q = M q) ∧ RefP A M' ∧ (∀ k, (∀ j, 0 ≤ j → j < A 0 0 → k ≠ 1 + 4 * j + 2) → M' 1 k = M 1 k) ∧ ∀ j, 0 ≤ j → j < A 0 0 → fdA A a d j ≤ M' 1 (1 + 4 * j + 2) ∧ M' 1 (1 + 4 * j + 2) ≤ D j
def slkN (A : zA) (D : Int → Int) (M : zM) : Int := sumI (fun j => D j - M 1 (1 + 4 * j + 2)) (A 0 0)
theorem slkN_nn {a d : Int} {D : Int → Int} {M M' : zM} (h : SlM A M M' a d D) : 0 ≤ slkN A D M' := sumI_nn (fun j j0 j1 => by have := h.2.2.2 j j0 j1; omega)
end RM

