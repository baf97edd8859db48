/-! lanes packed anew: the act -/
theorem sumN_ge {f : Int → Int} : ∀ {n : Nat} {j : Int}, (∀ i : Int, 0 ≤ i → i < n → 0 ≤ f i) → 0 ≤ j → j < n → f j ≤ sumN f n
  | 0, j, _, h0, h1 => by omega
  | n + 1, j, hn, h0, h1 => by
    show f j ≤ sumN f n + f n
    by_cases e : j = n
    · have s0 : 0 ≤ sumN f n := by
        clear e h1 h0
        induction n with
        | zero => exact Int.le_refl 0
        | succ k ih =>
          have := ih (fun i i0 i1 => hn i i0 (by omega))
          have := hn k (by omega) (by omega)
          show 0 ≤ sumN f k + f k
          omega
      subst e; omega
    · have h2 := sumN_ge (f := f) (n := n) (fun i i0 i1 => hn i i0 (by omega)) h0 (by omega)
      have h3 := hn n (by omega) (by omega)
      omega
section AC
variable {A A' S : zA} {H : Int → zA} {h fl L B : Int} {T : Int → Int} {M M2 Mm Mx Mx' : zM} {b : Nat}
theorem cntA_none {p : Int → Bool} {n : Int} (hc : cntA p n = 0) {j : Int} (j0 : 0 ≤ j) (j1 : j < n) : ¬ p j = true := by
  intro hp
  have s := sumN_ge (f := fun j => if p j then 1 else 0) (n := n.toNat) (j := j) (fun i _ _ => by show (0 : Int) ≤ if p i then 1 else 0; split <;> omega) j0 (by omega)
  have e : sumN (fun j => if p j then 1 else 0) n.toNat = 0 := hc
  rw [e] at s
  simp only [hp, if_true] at s
  omega
end AC

