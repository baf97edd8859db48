/-! lanes packed anew: the act -/
section AC
variable {A A' S : zA} {H : Int → zA} {h fl L B : Int} {T : Int → Int} {M M2 Mm Mx Mx' : zM} {b : Nat}
theorem cntA_none {p : Int → Bool} {n : Int} (hc : cntA p n = 0) {j : Int} (j0 : 0 ≤ j) (j1 : j < n) : ¬ p j = true := by
  intro hp
  have s := sumN_ge (f := fun j => if p j then 1 else 0) (n := n.toNat) (j := j) (fun i _ _ => by show (0 : Int) ≤ if p i then 1 else 0; split <;> omega) j0 (by omega)
  have e : sumN (fun j => if p j then 1 else 0) n.toNat = 0 := hc
  rw [e] at s
  simp only [hp, if_true] at s
  omega
end AC

