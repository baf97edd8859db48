/-! a new arrow: the act; an arrow taken away -/
section AC
variable {A A' S : zA} {H : Int → zA} {h fl L B : Int} {T : Int → Int} {M M2 Mm Mx' : zM} {b : Nat}
def arrA (A : zA) (i j : Int) : zA := fun k x => match k with
  | 6 => A 6 0 + 1
  | 7 => A 7 0 + 1
  | 8 => if x = A 6 0 then A 7 0 else A 8 x
  | 9 => if x = A 6 0 then i else A 9 x
  | 10 => if x = A 6 0 then j else A 10 x
  | k => A k x
theorem arrA_8 {i j x : Int} (q : x ≠ A 6 0) : arrA A i j 8 x = A 8 x := by show (if x = A 6 0 then A 7 0 else A 8 x) = _; rw [if_neg q]
theorem arrA_9 {i j x : Int} (q : x ≠ A 6 0) : arrA A i j 9 x = A 9 x := by show (if x = A 6 0 then i else A 9 x) = _; rw [if_neg q]
theorem arrA_10 {i j x : Int} (q : x ≠ A 6 0) : arrA A i j 10 x = A 10 x := by show (if x = A 6 0 then j else A 10 x) = _; rw [if_neg q]
theorem arrA_8n {i j : Int} : arrA A i j 8 (A 6 0) = A 7 0 := if_pos rfl
theorem arrA_9n {i j : Int} : arrA A i j 9 (A 6 0) = i := if_pos rfl
theorem arrA_10n {i j : Int} : arrA A i j 10 (A 6 0) = j := if_pos rfl
theorem arrA_val (hv : Val B A) {i j : Int} (i0 : 0 ≤ i) (i1 : i < A 0 0) (j0 : 0 ≤ j) (j1 : j < A 0 0) (q : ¬ (40 ≤ A 6 0 ∨ 200 ≤ A 7 0)) : Val B (arrA A i j) := by
  have ha := hv.a
  have hw := hv.aever
  refine ⟨hv.n, hv.ever, by show 0 ≤ A 6 0 + 1 ∧ A 6 0 + 1 ≤ 40; omega, by show A 6 0 + 1 ≤ A 7 0 + 1 ∧ A 7 0 + 1 ≤ 200; omega, hv.slip, hv.num, hv.numlt, hv.lane, hv.day, hv.apart, fun x x0 x1 => ?_, fun y x y0 yx x1 => ?_, fun x x0 x1 => ?_, fun x x0 x1 => ?_, hv.wid, hv.set0, hv.set1⟩
  · have x1 : x < A 6 0 + 1 := x1
    show 0 ≤ arrA A i j 8 x ∧ arrA A i j 8 x < A 7 0 + 1
    by_cases e : x = A 6 0
    · rw [e, arrA_8n]; omega
    · rw [arrA_8 e]; have := hv.anum x x0 (by omega); omega
  · have x1 : x < A 6 0 + 1 := x1
    rw [arrA_8 (by omega)]
    have := hv.anum y y0 (by omega)
    by_cases e : x = A 6 0
    · rw [e, arrA_8n]; omega
    · rw [arrA_8 e]; exact hv.anumlt y x y0 yx (by omega)
  · have x1 : x < A 6 0 + 1 := x1
    show 0 ≤ arrA A i j 9 x ∧ arrA A i j 9 x < A 0 0
    by_cases e : x = A 6 0
    · rw [e, arrA_9n]; exact ⟨i0, i1⟩
    · rw [arrA_9 e]; exact hv.from x x0 (by omega)
  · have x1 : x < A 6 0 + 1 := x1
    show 0 ≤ arrA A i j 10 x ∧ arrA A i j 10 x < A 0 0
    by_cases e : x = A 6 0
    · rw [e, arrA_10n]; exact ⟨j0, j1⟩
    · rw [arrA_10 e]; exact hv.to x x0 (by omega)
-- what a new arrow from the bar numbered p to the bar numbered q comes to
def ArrP (A : zA) (p q : Int) (r : Int) (A1 : zA) : Prop :=
  (((∀ i, 0 ≤ i → i < A 0 0 → A 2 i ≠ p) ∨ (∀ i, 0 ≤ i → i < A 0 0 → A 2 i ≠ q)) ∧ r = -1 ∧ A1 = A) ∨
  ∃ i j, 0 ≤ i ∧ i < A 0 0 ∧ A 2 i = p ∧ 0 ≤ j ∧ j < A 0 0 ∧ A 2 j = q ∧
    (((i = j ∨ hasP A i j ∨ reachP A j i) ∧ r = -4 ∧ A1 = A) ∨
     (¬ (i = j ∨ hasP A i j ∨ reachP A j i) ∧ (40 ≤ A 6 0 ∨ 200 ≤ A 7 0) ∧ r = -3 ∧ A1 = A) ∨
     (¬ (i = j ∨ hasP A i j ∨ reachP A j i) ∧ ¬ (40 ≤ A 6 0 ∨ 200 ≤ A 7 0) ∧ r = A 7 0 ∧ A1 = arrA A i j))
theorem ArrP.none1 {p q : Int} (z : (∀ i, 0 ≤ i → i < A 0 0 → A 2 i ≠ p) ∨ (∀ i, 0 ≤ i → i < A 0 0 → A 2 i ≠ q)) : ArrP A p q (-1) A := Or.inl ⟨z, rfl, rfl⟩
theorem ArrP.no4 {p q : Int} (i j : Int) (i0 : 0 ≤ i) (i1 : i < A 0 0) (ei : A 2 i = p) (j0 : 0 ≤ j) (j1 : j < A 0 0) (ej : A 2 j = q) (w : i = j ∨ hasP A i j ∨ reachP A j i) : ArrP A p q (-4) A := Or.inr ⟨i, j, i0, i1, ei, j0, j1, ej, Or.inl ⟨w, rfl, rfl⟩⟩
theorem ArrP.no3 {p q : Int} (i j : Int) (i0 : 0 ≤ i) (i1 : i < A 0 0) (ei : A 2 i = p) (j0 : 0 ≤ j) (j1 : j < A 0 0) (ej : A 2 j = q) (w : ¬ (i = j ∨ hasP A i j ∨ reachP A j i)) (y : 40 ≤ A 6 0 ∨ 200 ≤ A 7 0) : ArrP A p q (-3) A := Or.inr ⟨i, j, i0, i1, ei, j0, j1, ej, Or.inr (Or.inl ⟨w, y, rfl, rfl⟩)⟩
theorem ArrP.yes {p q : Int} (i j : Int) (i0 : 0 ≤ i) (i1 : i < A 0 0) (ei : A 2 i = p) (j0 : 0 ≤ j) (j1 : j < A 0 0) (ej : A 2 j = q) (w : ¬ (i = j ∨ hasP A i j ∨ reachP A j i)) (y : ¬ (40 ≤ A 6 0 ∨ 200 ≤ A 7 0)) : ArrP A p q (A 7 0) (arrA A i j) := Or.inr ⟨i, j, i0, i1, ei, j0, j1, ej, Or.inr (Or.inr ⟨w, y, rfl, rfl⟩)⟩
theorem ArrP.uniq (hv : Val B A) {p q r r' : Int} {A1 A2 : zA} (h1 : ArrP A p q r A1) (h2 : ArrP A p q r' A2) : r = r' ∧ A1 = A2 := by
  rcases h1 with ⟨z, e1, e2⟩ | ⟨i, j, i0, i1, ei, j0, j1, ej, w⟩
  · rcases h2 with ⟨z', e1', e2'⟩ | ⟨i', j', i0', i1', ei', j0', j1', ej', w'⟩
    · exact ⟨e1.trans e1'.symm, e2.trans e2'.symm⟩
    · rcases z with z | z
      · exact absurd ei' (z i' i0' i1')
      · exact absurd ej' (z j' j0' j1')
  · rcases h2 with ⟨z', e1', e2'⟩ | ⟨i', j', i0', i1', ei', j0', j1', ej', w'⟩
    · rcases z' with z | z
      · exact absurd ei (z i i0 i1)
      · exact absurd ej (z j j0 j1)
    · have eI := hv.uniq i0' i1' i0 i1 (ei'.trans ei.symm)
      have eJ := hv.uniq j0' j1' j0 j1 (ej'.trans ej.symm)
      subst eI; subst eJ
      rcases w with ⟨w, a, c⟩ | ⟨w, y, a, c⟩ | ⟨w, y, a, c⟩ <;> rcases w' with ⟨w', a', c'⟩ | ⟨w', y', a', c'⟩ | ⟨w', y', a', c'⟩
      · exact ⟨a.trans a'.symm, c.trans c'.symm⟩
      · exact absurd w w'
      · exact absurd w w'
      · exact absurd w' w
      · exact ⟨a.trans a'.symm, c.trans c'.symm⟩
      · exact absurd y y'
      · exact absurd w' w
      · exact absurd y' y
      · exact ⟨a.trans a'.symm, c.trans c'.symm⟩
theorem ArrP.val (hv : Val B A) {p q r : Int} {A1 : zA} (h1 : ArrP A p q r A1) : Val B A1 ∧ (r < 0 → A1 = A) := by
  have := hv.aever
  have := hv.a
  rcases h1 with ⟨z, e1, e2⟩ | ⟨i, j, i0, i1, ei, j0, j1, ej, w⟩
  · exact ⟨by rw [e2]; exact hv, fun _ => e2⟩
  · rcases w with ⟨w, a, c⟩ | ⟨w, y, a, c⟩ | ⟨w, y, a, c⟩
    · exact ⟨by rw [c]; exact hv, fun _ => c⟩
    · exact ⟨by rw [c]; exact hv, fun _ => c⟩
    · exact ⟨by rw [c]; exact arrA_val hv i0 i1 j0 j1 y, fun z => by omega⟩
theorem addArrow_ok (hc : CV A M b) (hv : Val B A) {p q : Int} {Φ : Int → zM → Prop} (k : ∀ r A1, ArrP A p q r A1 → ∀ M', (∀ a, a < b ∨ b + 10 ≤ a → M' a = M a) → CV A1 M' b → Φ r M') : jC_addArrow b p q M Φ := by
  have ha := hv.a
  have hw := hv.aever
  have stay : ∀ r, ArrP A p q r A → Φ r M := fun r hr => k r A hr M (fun _ _ => rfl) hc
  unfold jC_addArrow
  refine slotOf_ok hc hv (fun i i0 i1 ei => slotOf_ok hc hv (fun j j0 j1 ej => ⟨fun z => by omega, fun _ => ⟨fun _ => ?_, fun z => by omega⟩⟩) (fun hj => ⟨fun z => by omega, fun _ => ⟨fun z => absurd z (by decide), fun _ => stay _ (ArrP.none1 (Or.inr hj))⟩⟩)) (fun hi => ?_)
  · refine ⟨fun e => stay _ (ArrP.no4 i j i0 i1 ei j0 j1 ej (Or.inl e)), fun e => hasArrow_ok hc hv (fun hp => ⟨fun _ => stay _ (ArrP.no4 i j i0 i1 ei j0 j1 ej (Or.inr (Or.inl hp))), fun z => absurd z (by decide)⟩) (fun hp => ⟨fun z => absurd rfl z, fun _ => leadsOn_ok hc hv j0 j1 i0 i1 (fun hl => ⟨fun z => absurd z (by decide), fun _ => stay _ (ArrP.no4 i j i0 i1 ei j0 j1 ej (Or.inr (Or.inr hl)))⟩) (fun hl => ⟨fun _ => ?_, fun z => absurd rfl z⟩)⟩)⟩
    have no : ¬ (i = j ∨ hasP A i j ∨ reachP A j i) := fun z => by rcases z with z | z | z; exact e z; exact hp z; exact hl z
    rw [hc.a, hc.aever]
    refine ⟨fun z => stay _ (ArrP.no3 i j i0 i1 ei j0 j1 ej no (Or.inl z)), fun z => ⟨fun z2 => ⟨ha.1, by omega, ?_⟩, fun z2 => stay _ (ArrP.no3 i j i0 i1 ei j0 j1 ej no (Or.inr (by omega)))⟩⟩
    have K0 := k _ _ (ArrP.yes i j i0 i1 ei j0 j1 ej no (by omega))
    rintro M10 e10
    have n10 : M10 b = M b := by rw [e10]; exact zup_other (by omega)
    rw [n10, hc.a]
    refine ⟨ha.1, by omega, ?_⟩
    rintro M12 e12
    have n12 : M12 b = M b := by rw [e12, zup_other (by omega)]; exact n10
    rw [n12, hc.a]
    refine ⟨ha.1, by omega, ?_⟩
    rintro M14 e14
    have n14 : M14 b = M b := by rw [e14, zup_other (by omega)]; exact n12
    rw [n14, hc.a]
    refine ⟨by omega, ?_⟩
    rintro M16 e16
    have n16 : M16 b 7 = A 7 0 := by rw [e16, zup_ne (by omega), n14]; exact hc.aever
    rw [n16]
    refine ⟨by omega, ?_⟩
    rintro M18 e18
    have n18 : M18 b 7 = A 7 0 + 1 := by rw [e18, zup_at]
    rw [n18]
    have o10 : ∀ a, a ≠ b + 5 → M10 a = M a := fun a ha => by rw [e10, zup_other ha]
    have o12 : ∀ a, a ≠ b + 6 → M12 a = M10 a := fun a ha => by rw [e12, zup_other ha]
    have o14 : ∀ a, a ≠ b + 7 → M14 a = M12 a := fun a ha => by rw [e14, zup_other ha]
    have o18 : ∀ a, a ≠ b → M18 a = M14 a := fun a ha => by rw [e18, zup_other ha, e16, zup_other ha]
    have x0 : ∀ k, k ≠ 6 → k ≠ 7 → M18 b k = M b k := fun k k0 k1 => by rw [e18, zup_ne k1, e16, zup_ne k0, n14]
    have oz : ∀ a, a ≠ b → a ≠ b + 5 → a ≠ b + 6 → a ≠ b + 7 → M18 a = M a := fun a a0 a5 a6 a7 => by rw [o18 a a0, o14 a a7, o12 a a6, o10 a a5]
    have K := K0 M18 (fun a ha => oz a (by omega) (by omega) (by omega) (by omega)) ⟨by rw [x0 0 (by omega) (by omega)]; exact hc.n, by rw [x0 1 (by omega) (by omega)]; exact hc.ever, by rw [e18, zup_ne (by omega), e16, zup_at]; rfl, n18, by rw [x0 13 (by omega) (by omega)]; exact hc.slip, fun x x0 x1 => ?_, fun x x0 x1 => ?_, fun x x0 x1 => ?_, fun x x0 x1 => ?_, fun x x0 x1 => ?_, fun x x0 x1 => ?_, fun x x0 x1 => ?_, fun x x0 x1 => ?_, fun x x0 x1 => ?_⟩
    · exact ⟨by omega, by rw [show A 7 0 + 1 - 1 = A 7 0 by omega]; exact K⟩
    · rw [oz _ (by omega) (by omega) (by omega) (by omega)]; exact hc.num x x0 x1
    · rw [oz _ (by omega) (by omega) (by omega) (by omega)]; exact hc.lane x x0 x1
    · rw [oz _ (by omega) (by omega) (by omega) (by omega)]; exact hc.first x x0 x1
    · rw [oz _ (by omega) (by omega) (by omega) (by omega)]; exact hc.days x x0 x1
    · have x1 : x < A 6 0 + 1 := x1
      rw [o18 _ (by omega), o14 _ (by omega), o12 _ (by omega), e10]
      by_cases e : x = A 6 0
      · rw [e, arrA_8n, zup_at]
      · rw [arrA_8 e, zup_ne e]; exact hc.anum x x0 (by omega)
    · have x1 : x < A 6 0 + 1 := x1
      rw [o18 _ (by omega), o14 _ (by omega), e12]
      by_cases e : x = A 6 0
      · rw [e, arrA_9n, zup_at]
      · rw [arrA_9 e, zup_ne e, o10 _ (by omega)]; exact hc.from x x0 (by omega)
    · have x1 : x < A 6 0 + 1 := x1
      rw [o18 _ (by omega), e14]
      by_cases e : x = A 6 0
      · rw [e, arrA_10n, zup_at]
      · rw [arrA_10 e, zup_ne e, o12 _ (by omega), o10 _ (by omega)]; exact hc.to x x0 (by omega)
    · rw [oz _ (by omega) (by omega) (by omega) (by omega)]; exact hc.wid x x0 x1
    · rw [oz _ (by omega) (by omega) (by omega) (by omega)]; exact hc.set x x0 x1
  · have st := stay _ (ArrP.none1 (Or.inl hi))
    exact slotOf_ok hc hv (fun j j0 j1 ej => ⟨fun _ => st, fun z => absurd (by decide) z⟩) (fun hj => ⟨fun _ => st, fun z => absurd (by decide) z⟩)
end AC

