/-! lanes swapped; slips; what is asked of the rows; undoing, keeping, restoring -/
section AC
variable {A A' S : zA} {H : Int → zA} {h fl L B : Int} {T : Int → Int} {M M2 Mm Mx' : zM} {b : Nat}
def swI (p q l : Int) : Int := if l = p then q else if l = q then p else l
def swpA (A : zA) (p q : Int) : zA := lfA A (fun j => swI p q (A 3 j)) (A 4)
theorem swI_inj {p q l m : Int} (e : swI p q l = swI p q m) : l = m := by
  unfold swI at e
  by_cases e1 : l = p <;> by_cases e2 : m = p <;> by_cases e3 : l = q <;> by_cases e4 : m = q <;> simp only [e1, e2, e3, e4, if_true, if_false] at e <;> omega
theorem swI_rng {p q l : Int} (p0 : 0 ≤ p ∧ p < 12) (q0 : 0 ≤ q ∧ q < 12) (l0 : 0 ≤ l ∧ l < 12) : 0 ≤ swI p q l ∧ swI p q l < 12 := by
  unfold swI
  by_cases e1 : l = p
  · rw [if_pos e1]; omega
  · rw [if_neg e1]
    by_cases e2 : l = q
    · rw [if_pos e2]; omega
    · rw [if_neg e2]; omega
theorem swpA_val (hv : Val B A) {p q : Int} (p0 : 0 ≤ p ∧ p < 12) (q0 : 0 ≤ q ∧ q < 12) : Val B (swpA A p q) :=
  lfA_val hv (fun j j0 j1 => swI_rng p0 q0 (hv.lane j j0 j1)) (fun j j0 j1 => by have := hv.day j j0 j1; omega) (fun i j i0 i1 j0 j1 ij e => hv.apart i j i0 i1 j0 j1 ij (swI_inj e))
theorem exchangeLanes_ok (hc : CV A M b) (hv : Val B A) {p q : Int} {Φ : zM → Prop} (k : ∀ M', (∀ a, a ≠ b + 2 → M' a = M a) → CV (swpA A p q) M' b → Φ M') : jC_exchangeLanes b p q M Φ := by
  have hn := hv.n
  unfold jC_exchangeLanes
  refine zwh_run (fun v : Int × zM => 0 ≤ v.1 ∧ v.1 ≤ A 0 0 ∧ (∀ a, a ≠ b + 2 → v.2 a = M a) ∧ ∀ j, 0 ≤ j → j < A 0 0 → v.2 (b + 2) j = if j < v.1 then swI p q (A 3 j) else A 3 j) (fun v => (A 0 0 - v.1).toNat) ?_ (0, M) ⟨Int.le_refl 0, hn.1, fun _ _ => rfl, fun j j0 j1 => by rw [if_neg (by show ¬ j < 0; omega)]; exact hc.lane j j0 j1⟩
  rintro K ⟨x, M1⟩ ⟨x0, x1, hs, h2⟩ hK
  have x0 : 0 ≤ x := x0
  have x1 : x ≤ A 0 0 := x1
  have hs : ∀ a, a ≠ b + 2 → M1 a = M a := hs
  have h2n : ∀ j, 0 ≤ j → j < A 0 0 → M1 (b + 2) j = if j < x then swI p q (A 3 j) else A 3 j := h2
  show jC_exchangeLanes_L2 b p q K Φ x M1
  unfold jC_exchangeLanes_L2
  rw [hs b (by omega), hc.n]
  refine ⟨fun z => ?_, fun z => ⟨x0, by omega, ?_⟩⟩
  · have ex : x = A 0 0 := by omega
    refine k M1 hs (lfA_CV hc (fun a a2 a3 => hs a a2) (fun j j0 j1 => by rw [h2n j j0 j1, if_pos (by omega)]) (fun j j0 j1 => by rw [hs _ (by omega)]; exact hc.first j j0 j1))
  · have hx := h2n x x0 (by omega)
    rw [if_neg (by omega)] at hx
    rw [hx]
    have step : ∀ M2, (∀ a, a ≠ b + 2 → M2 a = M1 a) → M2 (b + 2) x = swI p q (A 3 x) → (∀ j, j ≠ x → M2 (b + 2) j = M1 (b + 2) j) → K (x + 1, M2) := by
      intro M2 g1 g2 g3
      refine hK (x + 1, M2) ⟨by show 0 ≤ x + 1; omega, by show x + 1 ≤ A 0 0; omega, fun a ha => (g1 a ha).trans (hs a ha), fun j j0 j1 => ?_⟩ (by show (A 0 0 - (x + 1)).toNat < (A 0 0 - x).toNat; omega)
      show M2 (b + 2) j = if j < x + 1 then swI p q (A 3 j) else A 3 j
      by_cases e : j = x
      · rw [e, if_pos (by omega)]; exact g2
      · rw [g3 j e, h2n j j0 j1]
        by_cases e2 : j < x
        · rw [if_pos e2, if_pos (by omega)]
        · rw [if_neg e2, if_neg (by omega)]
    refine ⟨fun e1 => ⟨x0, by omega, fun e2 => ⟨by omega, ?_⟩, fun e2 => ⟨x0, by omega, ?_⟩⟩, fun e1 => ⟨x0, by omega, ?_⟩⟩
    · rintro _ rfl
      exact step M1 (fun _ _ => rfl) (by unfold swI; rw [if_neg e1, if_neg e2]; exact hx) (fun _ _ => rfl)
    · rintro M5 e5
      refine ⟨by omega, ?_⟩
      rintro _ rfl
      exact step M5 (fun a ha => by rw [e5, zup_other ha]) (by unfold swI; rw [if_neg e1, if_pos e2, e5, zup_at]) (fun j hj => by rw [e5, zup_ne hj])
    · rintro M5 e5
      refine ⟨by omega, ?_⟩
      rintro _ rfl
      exact step M5 (fun a ha => by rw [e5, zup_other ha]) (by unfold swI; rw [if_pos e1, e5, zup_at]) (fun j hj => by rw [e5, zup_ne hj])
end AC

