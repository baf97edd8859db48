/-! who pushes whom, slipping; the reference's side -/
theorem nn_le {n : Int} (h0 : 0 ≤ n) (h1 : n ≤ 30) : 0 ≤ n * n ∧ n * n ≤ 900 := ⟨Int.mul_nonneg h0 h0, by have := Int.mul_le_mul h1 h1 h0 (by omega); omega⟩
theorem pq_ok {n p : Int} (n0 : 0 ≤ n) (p0 : 0 ≤ p) (p1 : p < n * n) : 0 < n ∧ 0 ≤ p / n ∧ p / n < n ∧ 0 ≤ p % n ∧ p % n < n ∧ n * (p / n) + p % n = p := by
  have np : 0 < n := by
    rcases Int.lt_or_eq_of_le n0 with h | h
    · exact h
    · subst h; omega
  refine ⟨np, Int.ediv_nonneg p0 n0, Int.ediv_lt_of_lt_mul np p1, Int.emod_nonneg _ (by omega), Int.emod_lt_of_pos _ np, Int.mul_ediv_add_emod p n⟩
theorem plt_ok {n i j : Int} (i0 : 0 ≤ i) (i1 : i < n) (j0 : 0 ≤ j) (j1 : j < n) : 0 ≤ n * i + j ∧ n * i + j < n * n := by
  have h1 : 0 ≤ n * i := Int.mul_nonneg (by omega) i0
  have h2 : n * (i + 1) ≤ n * n := Int.mul_le_mul_of_nonneg_left (by omega) (by omega)
  rw [Int.mul_add, Int.mul_one] at h2
  omega
theorem pinj_ok {n p i j : Int} (j0 : 0 ≤ j) (j1 : j < n) (e : n * i + j = p) : p / n = i ∧ p % n = j := by
  subst e
  rw [Int.add_comm, Int.add_mul_ediv_left _ _ (by omega), Int.ediv_eq_zero_of_lt j0 j1, Int.add_mul_emod_self_left, Int.emod_eq_of_lt j0 j1]
  exact ⟨by omega, rfl⟩
def RefP (A : zA) (M : zM) : Prop := ∀ i j, 0 ≤ i → i < A 0 0 → 0 ≤ j → j < A 0 0 → (¬ M 7 (30 * i + j) = 0 ↔ pushP A i j)
section RM
variable {A : zA} {M : zM} {B : Int}
def smL (M M' : zM) : Prop := ∀ q, q ≠ 7 → M' q = M q
end RM

