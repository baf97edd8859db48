/-! the best lane -/
section AC
variable {A A' S : zA} {H : Int → zA} {h fl L B : Int} {T : Int → Int} {M M2 Mm Mx Mx' : zM} {b : Nat}
def frL (A : zA) (s w : Int) : Prop := noBar A w (A 4 s) (A 4 s + A 5 s) s
noncomputable def uL (A : zA) (s w : Int) : Int := undrA (movA A s w (A 4 s))
noncomputable def blT (A : zA) (s w : Int) (p : Int × Int) : Int × Int := by classical exact if frL A s w ∧ (p.1 = -5 ∨ uL A s w < p.2) then (w, uL A s w) else p
theorem blT_y {s w : Int} {p : Int × Int} (h : frL A s w ∧ (p.1 = -5 ∨ uL A s w < p.2)) : blT A s w p = (w, uL A s w) := by unfold blT; rw [if_pos h]
theorem blT_n {s w : Int} {p : Int × Int} (h : ¬ (frL A s w ∧ (p.1 = -5 ∨ uL A s w < p.2))) : blT A s w p = p := by unfold blT; rw [if_neg h]
noncomputable def blS (A : zA) (s : Int) : Nat → Int × Int
  | 0 => (-5, 0)
  | k + 1 => blT A s k (blS A s k)
noncomputable def blI (A : zA) (s x : Int) : Int × Int := blS A s x.toNat
theorem blI_s {s x : Int} (x0 : 0 ≤ x) : blI A s (x + 1) = blT A s x (blI A s x) := by
  obtain ⟨k, rfl⟩ := Int.eq_ofNat_of_zero_le x0
  rfl
theorem frL_own (hv : Val B A) {s : Int} (s0 : 0 ≤ s) (s1 : s < A 0 0) : frL A s (A 3 s) := by
  intro j j0 j1 hne e z
  have := hv.apart j s j0 j1 s0 s1 hne e
  omega
theorem uL_rng (hv : Val B A) {s w : Int} (s0 : 0 ≤ s) (s1 : s < A 0 0) (w0 : 0 ≤ w ∧ w < 12) (hf : frL A s w) : Val B (movA A s w (A 4 s)) ∧ 0 ≤ uL A s w ∧ uL A s w ≤ 40 := by
  have ds := hv.day s s0 s1
  have v := movA_val hv s0 s1 w0.1 w0.2 ds.1 ds.2.2.2.2 hf
  exact ⟨v, undr_rng v⟩
theorem bl_own (hv : Val B A) {s : Int} (s0 : 0 ≤ s) (s1 : s < A 0 0) : ∀ k : Nat, A 3 s < k → (blS A s k).1 ≠ -5
  | 0, h => by have := hv.lane s s0 s1; omega
  | k + 1, h => by
    show (blT A s k (blS A s k)).1 ≠ -5
    by_cases y : frL A s k ∧ ((blS A s k).1 = -5 ∨ uL A s k < (blS A s k).2)
    · rw [blT_y y]
      show (k : Int) ≠ -5
      omega
    · rw [blT_n y]
      by_cases e : A 3 s = k
      · intro z
        exact y ⟨e ▸ frL_own hv s0 s1, Or.inl z⟩
      · exact bl_own hv s0 s1 k (by omega)
theorem movA_same {s w : Int} : movA A s w (A 4 s) = lfA A (fun j => if j = s then w else A 3 j) (A 4) := by
  have : (fun j => if j = s then A 4 s else A 4 j) = A 4 := by
    funext j
    by_cases e : j = s
    · rw [if_pos e, e]
    · rw [if_neg e]
  unfold movA
  rw [this]
end AC

