/-! lanes packed anew: the reference -/
theorem zwh_cnt {S : Type} {body : (S → Prop) → S → Prop} (I : Nat → S → Prop) (h : ∀ (K : S → Prop) (m : Nat) (s : S), I m s → (∀ m' s', I m' s' → m' < m → K s') → body K s) : ∀ m s, I m s → zwh body s := by
  have key : ∀ n m s, I m s → m < n → zloop body n s := by
    intro n
    induction n with
    | zero => intro m s _ h; exact absurd h (Nat.not_lt_zero _)
    | succ n ih => intro m s hi hn; exact h _ m s hi (fun m' s' hi' hm => ih m' s' hi' (by omega))
  exact fun m s hi => ⟨m + 1, key _ m s hi (Nat.lt_succ_self _)⟩
section AC
variable {A A' S : zA} {H : Int → zA} {h fl L B : Int} {T : Int → Int} {M M2 Mm Mx Mx' : zM} {b : Nat}
def bhd (A : zA) (a k : Int) : Prop := a = -5 ∨ LexP A a k
def curO (o : Int → Int) (n t : Int) : Int := if t < n then o t else -5
end AC

