/-! an arrow taken away, a bar taken away -/
section AC
variable {A A' S : zA} {H : Int → zA} {h fl L B : Int} {T : Int → Int} {M M2 Mm Mx' : zM} {b : Nat}
def drpA (A : zA) (k : Int) : zA := fun c x => match c with
  | 6 => A 6 0 - 1
  | 8 => if x < k then A 8 x else A 8 (x + 1)
  | 9 => if x < k then A 9 x else A 9 (x + 1)
  | 10 => if x < k then A 10 x else A 10 (x + 1)
  | c => A c x
theorem drpA_lt {k x : Int} (q : x < k) : drpA A k 8 x = A 8 x ∧ drpA A k 9 x = A 9 x ∧ drpA A k 10 x = A 10 x := ⟨if_pos q, if_pos q, if_pos q⟩
theorem drpA_ge {k x : Int} (q : ¬ x < k) : drpA A k 8 x = A 8 (x + 1) ∧ drpA A k 9 x = A 9 (x + 1) ∧ drpA A k 10 x = A 10 (x + 1) := ⟨if_neg q, if_neg q, if_neg q⟩
theorem drpA_val (hv : Val B A) {k : Int} (k0 : 0 ≤ k) (k1 : k < A 6 0) : Val B (drpA A k) := by
  have ha := hv.a
  have hw := hv.aever
  refine ⟨hv.n, hv.ever, by show 0 ≤ A 6 0 - 1 ∧ A 6 0 - 1 ≤ 40; omega, by show A 6 0 - 1 ≤ A 7 0 ∧ A 7 0 ≤ 200; omega, hv.slip, hv.num, hv.numlt, hv.lane, hv.day, hv.apart, fun x x0 x1 => ?_, fun y x y0 yx x1 => ?_, fun x x0 x1 => ?_, fun x x0 x1 => ?_, hv.wid, hv.set0, hv.set1⟩
  · have x1 : x < A 6 0 - 1 := x1
    by_cases q : x < k
    · rw [(drpA_lt q).1]; exact hv.anum x x0 (by omega)
    · rw [(drpA_ge q).1]; exact hv.anum (x + 1) (by omega) (by omega)
  · have x1 : x < A 6 0 - 1 := x1
    by_cases q : y < k
    · rw [(drpA_lt q).1]
      by_cases q2 : x < k
      · rw [(drpA_lt q2).1]; exact hv.anumlt y x y0 yx (by omega)
      · rw [(drpA_ge q2).1]; exact hv.anumlt y (x + 1) y0 (by omega) (by omega)
    · rw [(drpA_ge q).1, (drpA_ge (show ¬ x < k by omega)).1]; exact hv.anumlt (y + 1) (x + 1) (by omega) (by omega) (by omega)
  · have x1 : x < A 6 0 - 1 := x1
    show 0 ≤ drpA A k 9 x ∧ drpA A k 9 x < A 0 0
    by_cases q : x < k
    · rw [(drpA_lt q).2.1]; exact hv.from x x0 (by omega)
    · rw [(drpA_ge q).2.1]; exact hv.from (x + 1) (by omega) (by omega)
  · have x1 : x < A 6 0 - 1 := x1
    show 0 ≤ drpA A k 10 x ∧ drpA A k 10 x < A 0 0
    by_cases q : x < k
    · rw [(drpA_lt q).2.2]; exact hv.to x x0 (by omega)
    · rw [(drpA_ge q).2.2]; exact hv.to (x + 1) (by omega) (by omega)
theorem dropArrow_ok (hc : CV A M b) (hv : Val B A) {k : Int} (k0 : 0 ≤ k) (k1 : k < A 6 0) {Φ : zM → Prop} (kk : ∀ M', (∀ a, a < b ∨ b + 10 ≤ a → M' a = M a) → CV (drpA A k) M' b → Φ M') : jC_dropArrow b k M Φ := by
  have ha := hv.a
  unfold jC_dropArrow
  rw [hc.a]
  refine ⟨by omega, ?_⟩
  rintro M0 e0
  have o0 : ∀ a, a ≠ b → M0 a = M a := fun a h => by rw [e0, zup_other h]
  have o6 : M0 b 6 = A 6 0 - 1 := by rw [e0, zup_at]
  have ob : ∀ x, x ≠ 6 → M0 b x = M b x := fun x h => by rw [e0, zup_ne h]
  refine zwh_run (fun v => k ≤ v.1 ∧ v.1 ≤ A 6 0 - 1 ∧ (∀ a, a ≠ b + 5 → a ≠ b + 6 → a ≠ b + 7 → v.2 a = M0 a) ∧ ∀ x, 0 ≤ x → x < A 6 0 → v.2 (b + 5) x = (if k ≤ x ∧ x < v.1 then A 8 (x + 1) else A 8 x) ∧ v.2 (b + 6) x = (if k ≤ x ∧ x < v.1 then A 9 (x + 1) else A 9 x) ∧ v.2 (b + 7) x = (if k ≤ x ∧ x < v.1 then A 10 (x + 1) else A 10 x)) (fun v => (A 6 0 - v.1).toNat) ?_ (k, M0) ⟨Int.le_refl k, (show k ≤ A 6 0 - 1 by omega), fun _ _ _ _ => rfl, fun x x0 x1 => ?_⟩
  · rintro K ⟨y, M1⟩ ⟨y0, y1, hs, hx⟩ hK
    have y0 : k ≤ y := y0
    have y1 : y ≤ A 6 0 - 1 := y1
    have hs : ∀ a, a ≠ b + 5 → a ≠ b + 6 → a ≠ b + 7 → M1 a = M0 a := hs
    have hx : ∀ x, 0 ≤ x → x < A 6 0 → M1 (b + 5) x = (if k ≤ x ∧ x < y then A 8 (x + 1) else A 8 x) ∧ M1 (b + 6) x = (if k ≤ x ∧ x < y then A 9 (x + 1) else A 9 x) ∧ M1 (b + 7) x = (if k ≤ x ∧ x < y then A 10 (x + 1) else A 10 x) := hx
    show jC_dropArrow_L12 b k K Φ y M1
    unfold jC_dropArrow_L12
    rw [hs b (by omega) (by omega) (by omega), o6]
    refine ⟨fun q => ?_, fun q => ⟨by omega, by omega, by omega, by omega, by omega, ?_⟩⟩
    · have ey : y = A 6 0 - 1 := by omega
      subst ey
      have oz : ∀ a, a ≠ b → a ≠ b + 5 → a ≠ b + 6 → a ≠ b + 7 → M1 a = M a := fun a h h5 h6 h7 => (hs a h5 h6 h7).trans (o0 a h)
      have oB : M1 b = M0 b := hs b (by omega) (by omega) (by omega)
      refine kk M1 (fun a h => oz a (by omega) (by omega) (by omega) (by omega)) ⟨by rw [oB, ob 0 (by omega)]; exact hc.n, by rw [oB, ob 1 (by omega)]; exact hc.ever, by rw [oB]; exact o6, by rw [oB, ob 7 (by omega)]; exact hc.aever, by rw [oB, ob 13 (by omega)]; exact hc.slip, fun x x0 x1 => ?_, fun x x0 x1 => ?_, fun x x0 x1 => ?_, fun x x0 x1 => ?_, fun x x0 x1 => ?_, fun x x0 x1 => ?_, fun x x0 x1 => ?_, fun x x0 x1 => ?_, fun x x0 x1 => ?_⟩
      · rw [oz _ (by omega) (by omega) (by omega) (by omega)]; exact hc.num x x0 x1
      · rw [oz _ (by omega) (by omega) (by omega) (by omega)]; exact hc.lane x x0 x1
      · rw [oz _ (by omega) (by omega) (by omega) (by omega)]; exact hc.first x x0 x1
      · rw [oz _ (by omega) (by omega) (by omega) (by omega)]; exact hc.days x x0 x1
      · have x1 : x < A 6 0 - 1 := x1
        rw [(hx x x0 (by omega)).1]
        by_cases q : x < k
        · rw [(drpA_lt q).1, if_neg (by omega)]
        · rw [(drpA_ge q).1, if_pos (by omega)]
      · have x1 : x < A 6 0 - 1 := x1
        rw [(hx x x0 (by omega)).2.1]
        by_cases q : x < k
        · rw [(drpA_lt q).2.1, if_neg (by omega)]
        · rw [(drpA_ge q).2.1, if_pos (by omega)]
      · have x1 : x < A 6 0 - 1 := x1
        rw [(hx x x0 (by omega)).2.2]
        by_cases q : x < k
        · rw [(drpA_lt q).2.2, if_neg (by omega)]
        · rw [(drpA_ge q).2.2, if_pos (by omega)]
      · rw [oz _ (by omega) (by omega) (by omega) (by omega)]; exact hc.wid x x0 x1
      · rw [oz _ (by omega) (by omega) (by omega) (by omega)]; exact hc.set x x0 x1
    · have h1 := hx (y + 1) (by omega) (by omega)
      rw [if_neg (by omega), if_neg (by omega), if_neg (by omega)] at h1
      rintro M6 e6
      refine ⟨by omega, by omega, by omega, by omega, by omega, ?_⟩
      rintro M10 e10
      refine ⟨by omega, by omega, by omega, by omega, by omega, ?_⟩
      rintro M14 e14
      refine ⟨by omega, ?_⟩
      rintro _ rfl
      have p6 : ∀ a, a ≠ b + 5 → M6 a = M1 a := fun a h => by rw [e6, zup_other h]
      have p10 : ∀ a, a ≠ b + 6 → M10 a = M6 a := fun a h => by rw [e10, zup_other h]
      have p14 : ∀ a, a ≠ b + 7 → M14 a = M10 a := fun a h => by rw [e14, zup_other h]
      refine hK (y + 1, M14) ⟨by show k ≤ y + 1; omega, by show y + 1 ≤ A 6 0 - 1; omega, fun a h5 h6 h7 => by show M14 a = M0 a; rw [p14 a h7, p10 a h6, p6 a h5]; exact hs a h5 h6 h7, fun x x0 x1 => ?_⟩ (by show (A 6 0 - (y + 1)).toNat < (A 6 0 - y).toNat; omega)
      have hxx := hx x x0 x1
      show M14 (b + 5) x = (if k ≤ x ∧ x < y + 1 then A 8 (x + 1) else A 8 x) ∧ M14 (b + 6) x = (if k ≤ x ∧ x < y + 1 then A 9 (x + 1) else A 9 x) ∧ M14 (b + 7) x = (if k ≤ x ∧ x < y + 1 then A 10 (x + 1) else A 10 x)
      rw [p14 (b + 5) (by omega), p10 (b + 5) (by omega), e6, p14 (b + 6) (by omega), e10, e14]
      by_cases e : x = y
      · subst e
        rw [zup_at, zup_at, zup_at, if_pos (by omega), if_pos (by omega), if_pos (by omega), p6 (b + 6) (by omega), p10 (b + 7) (by omega), p6 (b + 7) (by omega)]
        exact h1
      · rw [zup_ne e, zup_ne e, zup_ne e, p6 (b + 6) (by omega), p10 (b + 7) (by omega), p6 (b + 7) (by omega)]
        by_cases e2 : k ≤ x ∧ x < y
        · rw [if_pos e2, if_pos e2, if_pos e2] at hxx
          rw [if_pos (by omega), if_pos (by omega), if_pos (by omega)]
          exact hxx
        · rw [if_neg e2, if_neg e2, if_neg e2] at hxx
          rw [if_neg (by omega), if_neg (by omega), if_neg (by omega)]
          exact hxx
  · show M0 (b + 5) x = (if k ≤ x ∧ x < k then A 8 (x + 1) else A 8 x) ∧ M0 (b + 6) x = (if k ≤ x ∧ x < k then A 9 (x + 1) else A 9 x) ∧ M0 (b + 7) x = (if k ≤ x ∧ x < k then A 10 (x + 1) else A 10 x)
    rw [if_neg (by omega), if_neg (by omega), if_neg (by omega), o0 _ (by omega), o0 _ (by omega), o0 _ (by omega)]
    exact ⟨hc.anum x x0 x1, hc.from x x0 x1, hc.to x x0 x1⟩
end AC

