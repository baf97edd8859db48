/-! the latest first days, the longest row; the reference's side -/
section RM
variable {A : zA} {M : zM} {B : Int}
theorem late_eq (hv : Val B A) {g : Int} {F D : Int → Int} (hD : LateP A g D) (h1 : ∀ j, 0 ≤ j → j < A 0 0 → D j ≤ F j ∧ F j + A 5 j ≤ g) (h2 : ∀ i j, 0 ≤ i → i < A 0 0 → 0 ≤ j → j < A 0 0 → pushP A i j → F i + A 5 i ≤ F j) : ∀ j, 0 ≤ j → j < A 0 0 → F j = D j := by
  have key : ∀ m : Nat, ∀ j, 0 ≤ j → j < A 0 0 → 200 - A 4 j < m → F j = D j := by
    intro m
    induction m with
    | zero => intro j j0 j1 hm; have := hv.day j j0 j1; omega
    | succ m ih =>
      intro j j0 j1 hm
      have f := h1 j j0 j1
      rcases (hD.1 j j0 j1).2.2 with e | ⟨i, i0, i1, hp, e⟩
      · omega
      · have lt := push_lt hv j0 j1 i0 i1 hp
        have := ih i i0 i1 (by omega)
        have := h2 j i j0 j1 i0 i1 hp
        omega
  intro j j0 j1
  have := hv.day j j0 j1
  exact key 201 j j0 j1 (by omega)
def LaM (A : zA) (M M' : zM) (D : Int → Int) : Prop := (∀ q, q ≠ 7 → q ≠ 8 → M' q = M q) ∧ RefP A M' ∧ ∀ j, 0 ≤ j → j < A 0 0 → D j ≤ M' 8 j ∧ M' 8 j + A 5 j ≤ gEnd A
def slqN (A : zA) (D : Int → Int) (M : zM) : Int := sumI (fun j => M 8 j - D j) (A 0 0)
theorem slqN_nn {D : Int → Int} {M M' : zM} (h : LaM A M M' D) : 0 ≤ slqN A D M' := sumI_nn (fun j j0 j1 => by have := h.2.2 j j0 j1; omega)
noncomputable def rowT (A : zA) : Nat → Int → Int
  | 0, i => A 5 i
  | r + 1, i => by classical exact max (rowT A r i) (mxI (fun j => if pushP A i j then A 5 i + rowT A r j else 0) (A 0 0))
theorem rowT_s (r : Nat) (i : Int) : rowT A r i ≤ rowT A (r + 1) i := by
  unfold rowT
  cases r <;> simp only [rowT] <;> omega
theorem rowT_mono {r s : Nat} (h : r ≤ s) (i : Int) : rowT A r i ≤ rowT A s i := by
  induction s with
  | zero => rw [show r = 0 by omega]; exact Int.le_refl _
  | succ s ih =>
    by_cases e : r = s + 1
    · rw [e]; exact Int.le_refl _
    · exact Int.le_trans (ih (by omega)) (rowT_s s i)
theorem rowT_push {r : Nat} {i j : Int} (j0 : 0 ≤ j) (j1 : j < A 0 0) (hp : pushP A i j) : A 5 i + rowT A r j ≤ rowT A (r + 1) i := by
  classical
  have := mxI_ub (f := fun j => if pushP A i j then A 5 i + rowT A r j else 0) j0 j1
  simp only [if_pos hp] at this
  show _ ≤ max (rowT A r i) (mxI (fun j => if pushP A i j then A 5 i + rowT A r j else 0) (A 0 0))
  omega
theorem rowT_le {r : Nat} {i c : Int} (h0 : rowT A r i ≤ c) (c0 : 0 ≤ c) (h : ∀ j, 0 ≤ j → j < A 0 0 → pushP A i j → A 5 i + rowT A r j ≤ c) : rowT A (r + 1) i ≤ c := by
  classical
  have : mxI (fun j => if pushP A i j then A 5 i + rowT A r j else 0) (A 0 0) ≤ c := mxI_le c0 (fun j j0 j1 => by
    by_cases hp : pushP A i j
    · simp only [if_pos hp]; exact h j j0 j1 hp
    · simp only [if_neg hp]; exact c0)
  show max (rowT A r i) (mxI (fun j => if pushP A i j then A 5 i + rowT A r j else 0) (A 0 0)) ≤ c
  omega
theorem rowT_5 (r : Nat) (i : Int) : A 5 i ≤ rowT A r i := rowT_mono (Nat.zero_le r) i
theorem row_reach (hv : Val B A) {o R : Int → Int} (ho : SortP A o (A 0 0)) (hR : RowP A R) : ∀ m t : Nat, t < m → (t : Int) < A 0 0 → ∀ r : Nat, ∃ i, 0 ≤ i ∧ i < A 0 0 ∧ R (o t) + rowT A r (o t) - A 5 (o t) ≤ rowT A (r + t) i := by
  intro m
  induction m with
  | zero => intro t ht; omega
  | succ m ih =>
    intro t ht t1 r
    have ot := ho.1 t (by omega) t1
    rcases (hR.1 _ ot.1 ot.2).2.2 with e | ⟨i, i0, i1, hp, e⟩
    · exact ⟨o t, ot.1, ot.2, by have := rowT_mono (A := A) (Nat.le_add_right r t) (o t); omega⟩
    · obtain ⟨u, u0, u1, eu⟩ := ho.2.2 i i0 i1
      have lt := sort_lt ho u0 u1 (by omega) t1 (by rw [eu]; exact push_lt hv i0 i1 ot.1 ot.2 hp)
      obtain ⟨k, k0, k1, hk⟩ := ih u.toNat (by omega) (by omega) (r + 1)
      rw [show ((u.toNat : Nat) : Int) = u by omega, eu] at hk
      have h1 := rowT_push (r := r) ot.1 ot.2 hp
      have h2 := rowT_mono (A := A) (show r + 1 + u.toNat ≤ r + t by omega) k
      exact ⟨k, k0, k1, by omega⟩
end RM

