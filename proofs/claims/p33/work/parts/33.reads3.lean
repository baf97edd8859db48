/-! the reference's reads -/
section RM
variable {A : zA} {M : zM} {B : Int} {Φ : Int → Prop}
def inBar (A : zA) (w s l but k : Int) : Prop := k ≠ but ∧ s ≤ l ∧ A 3 k = w ∧ A 4 k ≤ l ∧ s < endA A k
end RM

