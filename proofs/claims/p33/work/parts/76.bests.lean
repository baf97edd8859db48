/-! the best swap, the best lane: what they are -/
def BsQ (A : zA) (k : Nat) (t : Int × Int × Int) : Prop :=
  ((t.1 = -5 ∧ t.2.1 = undrA A ∧ t.2.2 = ptsA A) ∨ ((0 ≤ t.1 ∧ t.1 < k) ∧ t.1 / 12 < t.1 % 12 ∧ t.2.1 = uS A t.1 ∧ t.2.2 = pS A t.1 ∧ bet (undrA A) (ptsA A) t.2.1 t.2.2)) ∧
  ∀ q : Int, 0 ≤ q → q < k → q / 12 < q % 12 → ¬ bet t.2.1 t.2.2 (uS A q) (pS A q)
theorem bs_q (A : zA) : ∀ k : Nat, BsQ A k (bsS A k)
  | 0 => ⟨Or.inl ⟨rfl, rfl, rfl⟩, fun q q0 q1 => by omega⟩
  | k + 1 => by
    obtain ⟨h1, h2⟩ := bs_q A k
    show BsQ A (k + 1) (bsT A k (bsS A k))
    by_cases h : (k : Int) / 12 < (k : Int) % 12 ∧ bet (bsS A k).2.1 (bsS A k).2.2 (uS A k) (pS A k)
    · rw [bsT_y h]
      have hb := h.2
      refine ⟨Or.inr ⟨⟨by show (0 : Int) ≤ k; omega, by show (k : Int) < ((k + 1 : Nat) : Int); omega⟩, h.1, rfl, rfl, ?_⟩, fun q q0 q1 q2 => ?_⟩
      · show bet (undrA A) (ptsA A) (uS A k) (pS A k)
        rcases h1 with ⟨_, e2, e3⟩ | ⟨_, _, _, _, e5⟩
        · rw [e2, e3] at hb; exact hb
        · unfold bet at *; omega
      · show ¬ bet (uS A k) (pS A k) (uS A q) (pS A q)
        by_cases e : q = k
        · rw [e]; unfold bet; omega
        · have := h2 q q0 (by omega) q2
          unfold bet at *; omega
    · rw [bsT_n h]
      refine ⟨?_, fun q q0 q1 q2 => ?_⟩
      · rcases h1 with e | ⟨e1, e2⟩
        · exact Or.inl e
        · exact Or.inr ⟨⟨e1.1, by omega⟩, e2⟩
      · by_cases e : q = k
        · rw [e] at q2 ⊢
          exact fun z => h ⟨q2, z⟩
        · exact h2 q q0 (by omega) q2
theorem swI_comm (p q l : Int) : swI p q l = swI q p l := by
  unfold swI
  by_cases a : l = p
  · rw [if_pos a]
    by_cases c : l = q
    · rw [if_pos c, ← a, ← c]
    · rw [if_neg c, if_pos a]
  · rw [if_neg a]
    by_cases c : l = q
    · rw [if_pos c, if_pos c]
    · rw [if_neg c, if_neg c, if_neg a]
theorem swpA_comm (A : zA) (p q : Int) : swpA A p q = swpA A q p := by
  unfold swpA
  rw [show (fun j => swI p q (A 3 j)) = (fun j => swI q p (A 3 j)) from funext (fun j => swI_comm p q _)]
theorem swpA_laned {A : zA} {p q : Int} (h : lanedBy A p ∨ lanedBy A q) : lanedBy (swpA A p q) q ∨ lanedBy (swpA A p q) p := by
  rcases h with ⟨j, j0, j1, e⟩ | ⟨j, j0, j1, e⟩
  · refine Or.inl ⟨j, j0, j1, ?_⟩
    show swI p q (A 3 j) = q
    unfold swI; rw [if_pos e]
  · refine Or.inr ⟨j, j0, j1, ?_⟩
    show swI p q (A 3 j) = p
    unfold swI
    by_cases c : A 3 j = p
    · rw [if_pos c, ← e]; exact c
    · rw [if_neg c, if_pos e]
/-- a swap that can be done is no better than the best one -/
theorem bs_min {A : zA} {p q : Int} (ho : okSwap A p q) : ¬ bet (bsI A 144).2.1 (bsI A 144).2.2 (undrA (swpA A p q)) (ptsA (swpA A p q)) := by
  have key : ∀ {p q : Int}, okSwap A p q → p < q → ¬ bet (bsI A 144).2.1 (bsI A 144).2.2 (undrA (swpA A p q)) (ptsA (swpA A p q)) := by
    intro p q ho lt
    have hq := (bs_q A 144).2 (12 * p + q) (by have := ho.1; omega) (by have := ho.1; omega) (by have := ho.1; omega)
    have d1 : (12 * p + q) / 12 = p := by have := ho.1; omega
    have d2 : (12 * p + q) % 12 = q := by have := ho.1; omega
    unfold uS pS at hq
    rw [d1, d2, swB_y ho.2.2] at hq
    exact hq
  rcases Int.lt_trichotomy p q with z | z | z
  · exact key ho z
  · exact absurd z ho.2.1
  · rw [swpA_comm]
    exact key ⟨⟨ho.1.2, ho.1.1⟩, fun e => ho.2.1 e.symm, ho.2.2.symm⟩ z
/-- the best swap, if there is one, can be done, and leaves what is told -/
theorem bs_is {A : zA} (h : 0 ≤ (bsI A 144).1) : okSwap A ((bsI A 144).1 / 12) ((bsI A 144).1 % 12) ∧ (bsI A 144).1 / 12 < (bsI A 144).1 % 12 ∧ undrA (swpA A ((bsI A 144).1 / 12) ((bsI A 144).1 % 12)) = (bsI A 144).2.1 ∧ ptsA (swpA A ((bsI A 144).1 / 12) ((bsI A 144).1 % 12)) = (bsI A 144).2.2 ∧ bet (undrA A) (ptsA A) (bsI A 144).2.1 (bsI A 144).2.2 := by
  have hq := (bs_q A 144).1
  have e : bsS A 144 = bsI A 144 := rfl
  rw [e] at hq
  generalize bsI A 144 = t at h hq
  rcases hq with ⟨z, _⟩ | ⟨z1, z2, z3, z4, z5⟩
  · omega
  have hl : lanedBy A (t.1 / 12) ∨ lanedBy A (t.1 % 12) := by
    by_cases hl : lanedBy A (t.1 / 12) ∨ lanedBy A (t.1 % 12)
    · exact hl
    · unfold uS at z3
      unfold pS at z4
      rw [swB_n hl] at z3 z4
      rw [z3, z4] at z5
      unfold bet at z5
      omega
  unfold uS at z3
  unfold pS at z4
  rw [swB_y hl] at z3 z4
  exact ⟨⟨⟨⟨by omega, by omega⟩, ⟨by omega, by omega⟩⟩, by omega, hl⟩, z2, z3.symm, z4.symm, z5⟩
theorem bs_none {A : zA} (h : (bsI A 144).1 = -5) : (bsI A 144).2.1 = undrA A ∧ (bsI A 144).2.2 = ptsA A := by
  have hq := (bs_q A 144).1
  have e : bsS A 144 = bsI A 144 := rfl
  rw [e] at hq
  generalize bsI A 144 = t at h hq
  rcases hq with ⟨_, z2, z3⟩ | ⟨z1, _⟩
  · exact ⟨z2, z3⟩
  · omega
def BlQ (A : zA) (s : Int) (k : Nat) (t : Int × Int) : Prop :=
  (t.1 = -5 ∧ ∀ w : Int, 0 ≤ w → w < k → ¬ frL A s w) ∨ ((0 ≤ t.1 ∧ t.1 < k) ∧ frL A s t.1 ∧ t.2 = uL A s t.1 ∧ ∀ w : Int, 0 ≤ w → w < k → frL A s w → t.2 < uL A s w ∨ (t.2 = uL A s w ∧ t.1 ≤ w))
theorem bl_q (A : zA) (s : Int) : ∀ k : Nat, BlQ A s k (blS A s k)
  | 0 => Or.inl ⟨rfl, fun w w0 w1 => by omega⟩
  | k + 1 => by
    have ih := bl_q A s k
    show BlQ A s (k + 1) (blT A s k (blS A s k))
    by_cases h : frL A s k ∧ ((blS A s k).1 = -5 ∨ uL A s k < (blS A s k).2)
    · rw [blT_y h]
      refine Or.inr ⟨⟨by show (0 : Int) ≤ k; omega, by show (k : Int) < ((k + 1 : Nat) : Int); omega⟩, h.1, rfl, fun w w0 w1 hw => ?_⟩
      show uL A s k < uL A s w ∨ (uL A s k = uL A s w ∧ (k : Int) ≤ w)
      by_cases e : w = k
      · rw [e]; exact Or.inr ⟨rfl, Int.le_refl _⟩
      · rcases ih with ⟨_, n⟩ | ⟨_, _, _, m⟩
        · exact absurd hw (n w w0 (by omega))
        · have := m w w0 (by omega) hw
          rcases h.2 with z | z
          · omega
          · omega
    · rw [blT_n h]
      rcases ih with ⟨e, n⟩ | ⟨e, f, g, m⟩
      · refine Or.inl ⟨e, fun w w0 w1 => ?_⟩
        by_cases q : w = k
        · rw [q]; exact fun z => h ⟨z, Or.inl e⟩
        · exact n w w0 (by omega)
      · refine Or.inr ⟨⟨e.1, by omega⟩, f, g, fun w w0 w1 hw => ?_⟩
        by_cases q : w = k
        · rw [q] at hw ⊢
          have : ¬ uL A s k < (blS A s k).2 := fun z => h ⟨hw, Or.inr z⟩
          omega
        · exact m w w0 (by omega) hw
theorem lfA_same (A : zA) : lfA A (A 3) (A 4) = A := by
  funext k j
  rcases k with _ | _ | _ | _ | _ | k
  · rfl
  · rfl
  · rfl
  · rfl
  · rfl
  · rfl
theorem uL_own (A : zA) (s : Int) : uL A s (A 3 s) = undrA A := by
  unfold uL
  rw [movA_same, show (fun j => if j = s then A 3 s else A 3 j) = A 3 from funext (fun j => by
    by_cases e : j = s
    · rw [if_pos e, e]
    · rw [if_neg e]), lfA_same]
theorem bl_is {B : Int} {A : zA} (hv : Val B A) {s : Int} (s0 : 0 ≤ s) (s1 : s < A 0 0) : (0 ≤ (blI A s 12).1 ∧ (blI A s 12).1 < 12) ∧ frL A s (blI A s 12).1 ∧ ∀ w : Int, 0 ≤ w → w < 12 → frL A s w → uL A s (blI A s 12).1 < uL A s w ∨ (uL A s (blI A s 12).1 = uL A s w ∧ (blI A s 12).1 ≤ w) := by
  have hq := bl_q A s 12
  have e : blS A s 12 = blI A s 12 := rfl
  rw [e] at hq
  have ls := hv.lane s s0 s1
  rcases hq with ⟨_, n⟩ | ⟨e1, f, g, m⟩
  · exact absurd (frL_own hv s0 s1) (n _ ls.1 (by omega))
  · exact ⟨⟨e1.1, e1.2⟩, f, fun w w0 w1 hw => by have := m w w0 w1 hw; omega⟩
