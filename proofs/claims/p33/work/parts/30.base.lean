/-! charts as numbers: what a state is, on both sides -/
abbrev zA : Type := Nat → Int → Int
-- sums, greatest values
def sumN (f : Int → Int) : Nat → Int
  | 0 => 0
  | k + 1 => sumN f k + f k
def sumI (f : Int → Int) (n : Int) : Int := sumN f n.toNat
theorem sumI_0 (f : Int → Int) : sumI f 0 = 0 := rfl
theorem sumI_s (f : Int → Int) {n : Int} (h : 0 ≤ n) : sumI f (n + 1) = sumI f n + f n := by
  unfold sumI
  obtain ⟨k, rfl⟩ := Int.eq_ofNat_of_zero_le h
  rfl
theorem sumN_congr {f g : Int → Int} : ∀ {n : Nat}, (∀ j : Int, 0 ≤ j → j < n → f j = g j) → sumN f n = sumN g n
  | 0, _ => rfl
  | n + 1, h => by
    show sumN f n + f n = sumN g n + g n
    rw [sumN_congr (fun j h0 h1 => h j h0 (by omega)), h n (by omega) (by omega)]
theorem sumI_congr {f g : Int → Int} {n : Int} (h : ∀ j, 0 ≤ j → j < n → f j = g j) : sumI f n = sumI g n := sumN_congr (fun j h0 h1 => h j h0 (by omega))
theorem sumN_rng {f : Int → Int} {c : Int} : ∀ {n : Nat}, (∀ j : Int, 0 ≤ j → j < n → 0 ≤ f j ∧ f j ≤ c) → 0 ≤ sumN f n ∧ sumN f n ≤ c * n
  | 0, _ => by constructor <;> simp [sumN]
  | n + 1, h => by
    have h1 := sumN_rng (n := n) (fun j h0 h1 => h j h0 (by omega))
    have h2 := h n (by omega) (by omega)
    show 0 ≤ sumN f n + f n ∧ sumN f n + f n ≤ c * ((n + 1 : Nat) : Int)
    have e : c * ((n + 1 : Nat) : Int) = c * n + c := by push_cast; rw [Int.mul_add, Int.mul_one]
    omega
theorem sumI_rng {f : Int → Int} {c n : Int} (hn : 0 ≤ n) (h : ∀ j, 0 ≤ j → j < n → 0 ≤ f j ∧ f j ≤ c) : 0 ≤ sumI f n ∧ sumI f n ≤ c * n := by
  have := sumN_rng (f := f) (c := c) (n := n.toNat) (fun j h0 h1 => h j h0 (by omega))
  unfold sumI
  rw [show ((n.toNat : Nat) : Int) = n by omega] at this
  exact this
def mxN (f : Int → Int) : Nat → Int
  | 0 => 0
  | k + 1 => max (mxN f k) (f k)
def mxI (f : Int → Int) (n : Int) : Int := mxN f n.toNat
theorem mxI_0 (f : Int → Int) : mxI f 0 = 0 := rfl
theorem mxI_s (f : Int → Int) {n : Int} (h : 0 ≤ n) : mxI f (n + 1) = max (mxI f n) (f n) := by
  unfold mxI
  obtain ⟨k, rfl⟩ := Int.eq_ofNat_of_zero_le h
  rfl
theorem mxN_congr {f g : Int → Int} : ∀ {n : Nat}, (∀ j : Int, 0 ≤ j → j < n → f j = g j) → mxN f n = mxN g n
  | 0, _ => rfl
  | n + 1, h => by
    show max (mxN f n) (f n) = max (mxN g n) (g n)
    rw [mxN_congr (fun j h0 h1 => h j h0 (by omega)), h n (by omega) (by omega)]
theorem mxI_congr {f g : Int → Int} {n : Int} (h : ∀ j, 0 ≤ j → j < n → f j = g j) : mxI f n = mxI g n := mxN_congr (fun j h0 h1 => h j h0 (by omega))
theorem mxN_nn (f : Int → Int) : ∀ n : Nat, 0 ≤ mxN f n
  | 0 => Int.le_refl 0
  | n + 1 => by have := mxN_nn f n; show 0 ≤ max (mxN f n) (f n); omega
theorem mxN_ub {f : Int → Int} : ∀ {n : Nat} {j : Int}, 0 ≤ j → j < n → f j ≤ mxN f n
  | 0, j, h0, h1 => by omega
  | n + 1, j, h0, h1 => by
    show f j ≤ max (mxN f n) (f n)
    by_cases e : j = n
    · subst e; omega
    · have := mxN_ub (f := f) (n := n) h0 (by omega); omega
theorem mxN_at (f : Int → Int) : ∀ n : Nat, mxN f n = 0 ∨ ∃ j : Int, 0 ≤ j ∧ j < n ∧ f j = mxN f n
  | 0 => Or.inl rfl
  | n + 1 => by
    show max (mxN f n) (f n) = 0 ∨ ∃ j : Int, 0 ≤ j ∧ j < ((n + 1 : Nat) : Int) ∧ f j = max (mxN f n) (f n)
    rcases mxN_at f n with h | ⟨j, h0, h1, h2⟩
    · by_cases q : f n ≤ 0
      · exact Or.inl (by omega)
      · exact Or.inr ⟨n, by omega, by omega, by omega⟩
    · by_cases q : f n ≤ mxN f n
      · exact Or.inr ⟨j, h0, by omega, by omega⟩
      · exact Or.inr ⟨n, by omega, by omega, by omega⟩
theorem mxI_nn (f : Int → Int) (n : Int) : 0 ≤ mxI f n := mxN_nn f _
theorem mxI_ub {f : Int → Int} {n j : Int} (h0 : 0 ≤ j) (h1 : j < n) : f j ≤ mxI f n := mxN_ub h0 (by omega)
theorem mxI_at (f : Int → Int) (n : Int) : mxI f n = 0 ∨ ∃ j : Int, 0 ≤ j ∧ j < n ∧ f j = mxI f n := by
  rcases mxN_at f n.toNat with h | ⟨j, h0, h1, h2⟩
  · exact Or.inl h
  · exact Or.inr ⟨j, h0, by omega, h2⟩
theorem mxI_le {f : Int → Int} {n c : Int} (hc : 0 ≤ c) (h : ∀ j, 0 ≤ j → j < n → f j ≤ c) : mxI f n ≤ c := by
  rcases mxI_at f n with q | ⟨j, h0, h1, h2⟩
  · omega
  · have := h j h0 h1; omega
/-! A chart A: 0 bars, 1 bars so far, 2 numbers, 3 lanes, 4 first days, 5 days, 6 arrows, 7 arrows so far, 8 arrows' numbers, 9 from (a place), 10 to (a place), 11 widths, 12 settings, 13 slipped -/
def CV (A : zA) (M : zM) (b : Nat) : Prop :=
  M b 0 = A 0 0 ∧ M b 1 = A 1 0 ∧ M b 6 = A 6 0 ∧ M b 7 = A 7 0 ∧ M b 13 = A 13 0 ∧
  (∀ j, 0 ≤ j → j < A 0 0 → M (b + 1) j = A 2 j) ∧ (∀ j, 0 ≤ j → j < A 0 0 → M (b + 2) j = A 3 j) ∧ (∀ j, 0 ≤ j → j < A 0 0 → M (b + 3) j = A 4 j) ∧ (∀ j, 0 ≤ j → j < A 0 0 → M (b + 4) j = A 5 j) ∧
  (∀ j, 0 ≤ j → j < A 6 0 → M (b + 5) j = A 8 j) ∧ (∀ j, 0 ≤ j → j < A 6 0 → M (b + 6) j = A 9 j) ∧ (∀ j, 0 ≤ j → j < A 6 0 → M (b + 7) j = A 10 j) ∧
  (∀ j, 0 ≤ j → j < 200 → M (b + 8) j = A 11 j) ∧ (∀ j, 0 ≤ j → j < 2 → M (b + 9) j = A 12 j)
def Val (B : Int) (A : zA) : Prop :=
  (0 ≤ A 0 0 ∧ A 0 0 ≤ 30) ∧ (A 0 0 ≤ A 1 0 ∧ A 1 0 ≤ 90) ∧ (0 ≤ A 6 0 ∧ A 6 0 ≤ 40) ∧ (A 6 0 ≤ A 7 0 ∧ A 7 0 ≤ 200) ∧ (0 ≤ A 13 0 ∧ A 13 0 ≤ B) ∧
  (∀ j, 0 ≤ j → j < A 0 0 → 0 ≤ A 2 j ∧ A 2 j < A 1 0) ∧ (∀ i j, 0 ≤ i → i < j → j < A 0 0 → A 2 i < A 2 j) ∧
  (∀ j, 0 ≤ j → j < A 0 0 → 0 ≤ A 3 j ∧ A 3 j < 12) ∧ (∀ j, 0 ≤ j → j < A 0 0 → 0 ≤ A 4 j ∧ A 4 j < 200 ∧ 1 ≤ A 5 j ∧ A 5 j ≤ 30 ∧ A 4 j + A 5 j ≤ 200) ∧
  (∀ i j, 0 ≤ i → i < A 0 0 → 0 ≤ j → j < A 0 0 → i ≠ j → A 3 i = A 3 j → A 4 i + A 5 i ≤ A 4 j ∨ A 4 j + A 5 j ≤ A 4 i) ∧
  (∀ j, 0 ≤ j → j < A 6 0 → 0 ≤ A 8 j ∧ A 8 j < A 7 0) ∧ (∀ i j, 0 ≤ i → i < j → j < A 6 0 → A 8 i < A 8 j) ∧
  (∀ j, 0 ≤ j → j < A 6 0 → 0 ≤ A 9 j ∧ A 9 j < A 0 0) ∧ (∀ j, 0 ≤ j → j < A 6 0 → 0 ≤ A 10 j ∧ A 10 j < A 0 0) ∧
  (∀ j, 0 ≤ j → j < 200 → 1 ≤ A 11 j ∧ A 11 j ≤ 9) ∧ (0 ≤ A 12 0 ∧ A 12 0 ≤ 2) ∧ (10 ≤ A 12 1 ∧ A 12 1 ≤ 999)
section CVP
variable {A : zA} {M : zM} {b : Nat}
theorem CV.n (h : CV A M b) : M b 0 = A 0 0 := h.1
theorem CV.ever (h : CV A M b) : M b 1 = A 1 0 := h.2.1
theorem CV.a (h : CV A M b) : M b 6 = A 6 0 := h.2.2.1
theorem CV.aever (h : CV A M b) : M b 7 = A 7 0 := h.2.2.2.1
theorem CV.slip (h : CV A M b) : M b 13 = A 13 0 := h.2.2.2.2.1
theorem CV.num (h : CV A M b) : ∀ j, 0 ≤ j → j < A 0 0 → M (b + 1) j = A 2 j := h.2.2.2.2.2.1
theorem CV.lane (h : CV A M b) : ∀ j, 0 ≤ j → j < A 0 0 → M (b + 2) j = A 3 j := h.2.2.2.2.2.2.1
theorem CV.first (h : CV A M b) : ∀ j, 0 ≤ j → j < A 0 0 → M (b + 3) j = A 4 j := h.2.2.2.2.2.2.2.1
theorem CV.days (h : CV A M b) : ∀ j, 0 ≤ j → j < A 0 0 → M (b + 4) j = A 5 j := h.2.2.2.2.2.2.2.2.1
theorem CV.anum (h : CV A M b) : ∀ j, 0 ≤ j → j < A 6 0 → M (b + 5) j = A 8 j := h.2.2.2.2.2.2.2.2.2.1
theorem CV.from (h : CV A M b) : ∀ j, 0 ≤ j → j < A 6 0 → M (b + 6) j = A 9 j := h.2.2.2.2.2.2.2.2.2.2.1
theorem CV.to (h : CV A M b) : ∀ j, 0 ≤ j → j < A 6 0 → M (b + 7) j = A 10 j := h.2.2.2.2.2.2.2.2.2.2.2.1
theorem CV.wid (h : CV A M b) : ∀ j, 0 ≤ j → j < 200 → M (b + 8) j = A 11 j := h.2.2.2.2.2.2.2.2.2.2.2.2.1
theorem CV.set (h : CV A M b) : ∀ j, 0 ≤ j → j < 2 → M (b + 9) j = A 12 j := h.2.2.2.2.2.2.2.2.2.2.2.2.2
variable {σ : Int → Int}
variable {B : Int}
theorem Val.n (h : Val B A) : 0 ≤ A 0 0 ∧ A 0 0 ≤ 30 := h.1
theorem Val.ever (h : Val B A) : A 0 0 ≤ A 1 0 ∧ A 1 0 ≤ 90 := h.2.1
theorem Val.a (h : Val B A) : 0 ≤ A 6 0 ∧ A 6 0 ≤ 40 := h.2.2.1
theorem Val.aever (h : Val B A) : A 6 0 ≤ A 7 0 ∧ A 7 0 ≤ 200 := h.2.2.2.1
theorem Val.slip (h : Val B A) : 0 ≤ A 13 0 ∧ A 13 0 ≤ B := h.2.2.2.2.1
theorem Val.num (h : Val B A) : ∀ j, 0 ≤ j → j < A 0 0 → 0 ≤ A 2 j ∧ A 2 j < A 1 0 := h.2.2.2.2.2.1
theorem Val.numlt (h : Val B A) : ∀ i j, 0 ≤ i → i < j → j < A 0 0 → A 2 i < A 2 j := h.2.2.2.2.2.2.1
theorem Val.lane (h : Val B A) : ∀ j, 0 ≤ j → j < A 0 0 → 0 ≤ A 3 j ∧ A 3 j < 12 := h.2.2.2.2.2.2.2.1
theorem Val.day (h : Val B A) : ∀ j, 0 ≤ j → j < A 0 0 → 0 ≤ A 4 j ∧ A 4 j < 200 ∧ 1 ≤ A 5 j ∧ A 5 j ≤ 30 ∧ A 4 j + A 5 j ≤ 200 := h.2.2.2.2.2.2.2.2.1
theorem Val.apart (h : Val B A) : ∀ i j, 0 ≤ i → i < A 0 0 → 0 ≤ j → j < A 0 0 → i ≠ j → A 3 i = A 3 j → A 4 i + A 5 i ≤ A 4 j ∨ A 4 j + A 5 j ≤ A 4 i := h.2.2.2.2.2.2.2.2.2.1
theorem Val.anum (h : Val B A) : ∀ j, 0 ≤ j → j < A 6 0 → 0 ≤ A 8 j ∧ A 8 j < A 7 0 := h.2.2.2.2.2.2.2.2.2.2.1
theorem Val.anumlt (h : Val B A) : ∀ i j, 0 ≤ i → i < j → j < A 6 0 → A 8 i < A 8 j := h.2.2.2.2.2.2.2.2.2.2.2.1
theorem Val.from (h : Val B A) : ∀ j, 0 ≤ j → j < A 6 0 → 0 ≤ A 9 j ∧ A 9 j < A 0 0 := h.2.2.2.2.2.2.2.2.2.2.2.2.1
theorem Val.to (h : Val B A) : ∀ j, 0 ≤ j → j < A 6 0 → 0 ≤ A 10 j ∧ A 10 j < A 0 0 := h.2.2.2.2.2.2.2.2.2.2.2.2.2.1
theorem Val.wid (h : Val B A) : ∀ j, 0 ≤ j → j < 200 → 1 ≤ A 11 j ∧ A 11 j ≤ 9 := h.2.2.2.2.2.2.2.2.2.2.2.2.2.2.1
theorem Val.set0 (h : Val B A) : 0 ≤ A 12 0 ∧ A 12 0 ≤ 2 := h.2.2.2.2.2.2.2.2.2.2.2.2.2.2.2.1
theorem Val.set1 (h : Val B A) : 10 ≤ A 12 1 ∧ A 12 1 ≤ 999 := h.2.2.2.2.2.2.2.2.2.2.2.2.2.2.2.2
theorem Val.uniq (h : Val B A) {i j : Int} (h0 : 0 ≤ i) (h1 : i < A 0 0) (h2 : 0 ≤ j) (h3 : j < A 0 0) (e : A 2 i = A 2 j) : i = j := by
  rcases Int.lt_trichotomy i j with q | q | q
  · have := h.numlt i j h0 q h3; omega
  · exact q
  · have := h.numlt j i h2 q h1; omega
end CVP

