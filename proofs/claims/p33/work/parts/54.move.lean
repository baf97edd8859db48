/-! a bar moved, lanes swapped, a bar pulled -/
section AC
variable {A A' S : zA} {H : Int → zA} {h fl L B : Int} {T : Int → Int} {M M2 Mm Mx' : zM} {b : Nat}
def lfA (A : zA) (l f : Int → Int) : zA := fun k j => match k with
  | 3 => l j
  | 4 => f j
  | k => A k j
theorem lfA_CV (hc : CV A M b) {l f : Int → Int} (hs : ∀ a, a ≠ b + 2 → a ≠ b + 3 → M2 a = M a) (h2 : ∀ j, 0 ≤ j → j < A 0 0 → M2 (b + 2) j = l j) (h3 : ∀ j, 0 ≤ j → j < A 0 0 → M2 (b + 3) j = f j) : CV (lfA A l f) M2 b := by
  refine ⟨?_, ?_, ?_, ?_, ?_, fun j j0 j1 => ?_, h2, h3, fun j j0 j1 => ?_, fun j j0 j1 => ?_, fun j j0 j1 => ?_, fun j j0 j1 => ?_, fun j j0 j1 => ?_, fun j j0 j1 => ?_⟩
  · rw [hs _ (by omega) (by omega)]; exact hc.n
  · rw [hs _ (by omega) (by omega)]; exact hc.ever
  · rw [hs _ (by omega) (by omega)]; exact hc.a
  · rw [hs _ (by omega) (by omega)]; exact hc.aever
  · rw [hs _ (by omega) (by omega)]; exact hc.slip
  · rw [hs _ (by omega) (by omega)]; exact hc.num j j0 j1
  · rw [hs _ (by omega) (by omega)]; exact hc.days j j0 j1
  · rw [hs _ (by omega) (by omega)]; exact hc.anum j j0 j1
  · rw [hs _ (by omega) (by omega)]; exact hc.from j j0 j1
  · rw [hs _ (by omega) (by omega)]; exact hc.to j j0 j1
  · rw [hs _ (by omega) (by omega)]; exact hc.wid j j0 j1
  · rw [hs _ (by omega) (by omega)]; exact hc.set j j0 j1
theorem lfA_val (hv : Val B A) {l f : Int → Int} (h1 : ∀ j, 0 ≤ j → j < A 0 0 → 0 ≤ l j ∧ l j < 12) (h2 : ∀ j, 0 ≤ j → j < A 0 0 → 0 ≤ f j ∧ f j + A 5 j ≤ 200) (h3 : ∀ i j, 0 ≤ i → i < A 0 0 → 0 ≤ j → j < A 0 0 → i ≠ j → l i = l j → f i + A 5 i ≤ f j ∨ f j + A 5 j ≤ f i) : Val B (lfA A l f) :=
  ⟨hv.n, hv.ever, hv.a, hv.aever, hv.slip, hv.num, hv.numlt, h1, fun j j0 j1 => by have a := h2 j j0 j1; have c := hv.day j j0 j1; show 0 ≤ f j ∧ f j < 200 ∧ 1 ≤ A 5 j ∧ A 5 j ≤ 30 ∧ f j + A 5 j ≤ 200; omega, h3, hv.anum, hv.anumlt, hv.from, hv.to, hv.wid, hv.set0, hv.set1⟩
-- a bar moved
def movA (A : zA) (s l f : Int) : zA := lfA A (fun j => if j = s then l else A 3 j) (fun j => if j = s then f else A 4 j)
theorem movA_val (hv : Val B A) {s l f : Int} (s0 : 0 ≤ s) (s1 : s < A 0 0) (l0 : 0 ≤ l) (l1 : l < 12) (f0 : 0 ≤ f) (f1 : f + A 5 s ≤ 200) (nb : noBar A l f (f + A 5 s) s) : Val B (movA A s l f) := by
  refine lfA_val hv (fun j j0 j1 => ?_) (fun j j0 j1 => ?_) (fun i j i0 i1 j0 j1 ij e => ?_)
  · by_cases q : j = s
    · simp only [if_pos q]; omega
    · simp only [if_neg q]; exact hv.lane j j0 j1
  · by_cases q : j = s
    · simp only [if_pos q]; subst q; exact ⟨f0, f1⟩
    · simp only [if_neg q]; have := hv.day j j0 j1; omega
  · have vi := hv.day i i0 i1
    have vj := hv.day j j0 j1
    by_cases q : i = s
    · have q2 : ¬ j = s := by omega
      simp only [if_pos q, if_neg q2] at e ⊢
      have := nb j j0 j1 q2 e.symm
      subst q
      omega
    · by_cases q2 : j = s
      · simp only [if_neg q, if_pos q2] at e ⊢
        have := nb i i0 i1 q e
        subst q2
        omega
      · simp only [if_neg q, if_neg q2] at e ⊢
        exact hv.apart i j i0 i1 j0 j1 ij e
end AC

