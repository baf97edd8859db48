/-! a new bar -/
section AC
variable {A A' S : zA} {H : Int → zA} {h fl L B : Int} {T : Int → Int} {M M2 Mm Mx' : zM} {b : Nat}
def addA (A : zA) (l f d : Int) : zA := fun k j => match k with
  | 0 => A 0 0 + 1
  | 1 => A 1 0 + 1
  | 2 => if j = A 0 0 then A 1 0 else A 2 j
  | 3 => if j = A 0 0 then l else A 3 j
  | 4 => if j = A 0 0 then f else A 4 j
  | 5 => if j = A 0 0 then d else A 5 j
  | k => A k j
theorem addA_2 {l f d j : Int} (h : j ≠ A 0 0) : addA A l f d 2 j = A 2 j := by show (if j = A 0 0 then A 1 0 else A 2 j) = _; rw [if_neg h]
theorem addA_3 {l f d j : Int} (h : j ≠ A 0 0) : addA A l f d 3 j = A 3 j := by show (if j = A 0 0 then l else A 3 j) = _; rw [if_neg h]
theorem addA_4 {l f d j : Int} (h : j ≠ A 0 0) : addA A l f d 4 j = A 4 j := by show (if j = A 0 0 then f else A 4 j) = _; rw [if_neg h]
theorem addA_5 {l f d j : Int} (h : j ≠ A 0 0) : addA A l f d 5 j = A 5 j := by show (if j = A 0 0 then d else A 5 j) = _; rw [if_neg h]
theorem addA_2n {l f d : Int} : addA A l f d 2 (A 0 0) = A 1 0 := if_pos rfl
theorem addA_3n {l f d : Int} : addA A l f d 3 (A 0 0) = l := if_pos rfl
theorem addA_4n {l f d : Int} : addA A l f d 4 (A 0 0) = f := if_pos rfl
theorem addA_5n {l f d : Int} : addA A l f d 5 (A 0 0) = d := if_pos rfl
def okAdd (l f d : Int) : Prop := 0 ≤ f ∧ f < 200 ∧ 1 ≤ d ∧ d ≤ 30 ∧ f + d ≤ 200
noncomputable def addR (A : zA) (l f d : Int) : Int := by classical exact if ¬ (0 ≤ l ∧ l < 12) then -1 else if ¬ okAdd l f d then -2 else if ¬ noBar A l f (f + d) (-1) then -4 else if 30 ≤ A 0 0 ∨ 90 ≤ A 1 0 then -3 else A 1 0
theorem addR_1 {l f d : Int} (h : ¬ (0 ≤ l ∧ l < 12)) : addR A l f d = -1 := by unfold addR; rw [if_pos h]
theorem addR_2 {l f d : Int} (h : 0 ≤ l ∧ l < 12) (h2 : ¬ okAdd l f d) : addR A l f d = -2 := by unfold addR; rw [if_neg (fun z => z h), if_pos h2]
theorem addR_4 {l f d : Int} (h : 0 ≤ l ∧ l < 12) (h2 : okAdd l f d) (h3 : ¬ noBar A l f (f + d) (-1)) : addR A l f d = -4 := by unfold addR; rw [if_neg (fun z => z h), if_neg (fun z => z h2), if_pos h3]
theorem addR_3 {l f d : Int} (h : 0 ≤ l ∧ l < 12) (h2 : okAdd l f d) (h3 : noBar A l f (f + d) (-1)) (h4 : 30 ≤ A 0 0 ∨ 90 ≤ A 1 0) : addR A l f d = -3 := by unfold addR; rw [if_neg (fun z => z h), if_neg (fun z => z h2), if_neg (fun z => z h3), if_pos h4]
theorem addR_0 {l f d : Int} (h : 0 ≤ l ∧ l < 12) (h2 : okAdd l f d) (h3 : noBar A l f (f + d) (-1)) (h4 : ¬ (30 ≤ A 0 0 ∨ 90 ≤ A 1 0)) : addR A l f d = A 1 0 := by unfold addR; rw [if_neg (fun z => z h), if_neg (fun z => z h2), if_neg (fun z => z h3), if_neg h4]
def okAdds (A : zA) (l f d : Int) : Prop := (0 ≤ l ∧ l < 12) ∧ okAdd l f d ∧ noBar A l f (f + d) (-1) ∧ ¬ (30 ≤ A 0 0 ∨ 90 ≤ A 1 0)
theorem okAdds_R (hv : Val B A) {l f d : Int} (h : okAdds A l f d) : addR A l f d = A 1 0 ∧ 0 ≤ A 1 0 := ⟨addR_0 h.1 h.2.1 h.2.2.1 h.2.2.2, by have := hv.n; have := hv.ever; omega⟩
theorem okAdds_N {l f d : Int} (h : ¬ okAdds A l f d) : addR A l f d < 0 := by
  by_cases h1 : 0 ≤ l ∧ l < 12
  · by_cases h2 : okAdd l f d
    · by_cases h3 : noBar A l f (f + d) (-1)
      · by_cases h4 : 30 ≤ A 0 0 ∨ 90 ≤ A 1 0
        · rw [addR_3 h1 h2 h3 h4]; omega
        · exact absurd ⟨h1, h2, h3, h4⟩ h
      · rw [addR_4 h1 h2 h3]; omega
    · rw [addR_2 h1 h2]; omega
  · rw [addR_1 h1]; omega
theorem addA_val (hv : Val B A) {l f d : Int} (ho : okAdds A l f d) : Val B (addA A l f d) := by
  have hn := hv.n
  have he := hv.ever
  have ha := hv.a
  obtain ⟨l0, o0, nb, q⟩ := ho
  unfold okAdd at o0
  refine ⟨by show 0 ≤ A 0 0 + 1 ∧ A 0 0 + 1 ≤ 30; omega, by show A 0 0 + 1 ≤ A 1 0 + 1 ∧ A 1 0 + 1 ≤ 90; omega, ha, hv.aever, hv.slip, fun j j0 j1 => ?_, fun i j i0 ij j1 => ?_, fun j j0 j1 => ?_, fun j j0 j1 => ?_, fun i j i0 i1 j0 j1 ij e => ?_, hv.anum, hv.anumlt, fun j j0 j1 => ?_, fun j j0 j1 => ?_, hv.wid, hv.set0, hv.set1⟩
  · have j1 : j < A 0 0 + 1 := j1
    show 0 ≤ addA A l f d 2 j ∧ addA A l f d 2 j < A 1 0 + 1
    by_cases e : j = A 0 0
    · rw [e, addA_2n]; omega
    · rw [addA_2 e]; have := hv.num j j0 (by omega); omega
  · have j1 : j < A 0 0 + 1 := j1
    rw [addA_2 (by omega)]
    have v := hv.num i i0 (by omega)
    by_cases e : j = A 0 0
    · rw [e, addA_2n]; omega
    · rw [addA_2 e]; exact hv.numlt i j i0 ij (by omega)
  · have j1 : j < A 0 0 + 1 := j1
    by_cases e : j = A 0 0
    · rw [e, addA_3n]; omega
    · rw [addA_3 e]; exact hv.lane j j0 (by omega)
  · have j1 : j < A 0 0 + 1 := j1
    by_cases e : j = A 0 0
    · rw [e, addA_4n, addA_5n]; omega
    · rw [addA_4 e, addA_5 e]; exact hv.day j j0 (by omega)
  · have i1 : i < A 0 0 + 1 := i1
    have j1 : j < A 0 0 + 1 := j1
    by_cases e1 : i = A 0 0
    · have e2 : j ≠ A 0 0 := by omega
      rw [e1, addA_3n, addA_3 e2] at e
      rw [e1, addA_4n, addA_5n, addA_4 e2, addA_5 e2]
      have := nb j j0 (by omega) (by omega) e.symm
      omega
    · by_cases e2 : j = A 0 0
      · rw [e2, addA_3n, addA_3 e1] at e
        rw [e2, addA_4n, addA_5n, addA_4 e1, addA_5 e1]
        have := nb i i0 (by omega) (by omega) e
        omega
      · rw [addA_3 e1, addA_3 e2] at e
        rw [addA_4 e1, addA_5 e1, addA_4 e2, addA_5 e2]
        exact hv.apart i j i0 (by omega) j0 (by omega) ij e
  · have := hv.from j j0 j1
    show 0 ≤ A 9 j ∧ A 9 j < A 0 0 + 1
    omega
  · have := hv.to j j0 j1
    show 0 ≤ A 10 j ∧ A 10 j < A 0 0 + 1
    omega
theorem addBar_ok (hc : CV A M b) (hv : Val B A) {l f d : Int} {Φ : Int → zM → Prop} (hbad : ¬ okAdds A l f d → Φ (addR A l f d) M) (k : okAdds A l f d → ∀ M', (∀ a, a < b ∨ b + 10 ≤ a → M' a = M a) → CV (addA A l f d) M' b → Φ (addR A l f d) M') : jC_addBar b l f d M Φ := by
  have hn := hv.n
  have he := hv.ever
  unfold jC_addBar
  refine isLane_ok (fun l0 l1 => ⟨fun _ => ?_, fun z => absurd z (by decide)⟩) (fun z => ⟨fun y => absurd rfl y, fun _ => by have := hbad (fun y => z y.1); rw [addR_1 z] at this; exact this⟩)
  have b2 : ¬ okAdd l f d → Φ (-2) M := fun q => by have := hbad (fun z => q z.2.1); rw [addR_2 ⟨l0, l1⟩ q] at this; exact this
  refine isDay_ok (fun f0 f1 => ⟨fun z => absurd z (by decide), fun _ => ⟨fun q => b2 (by unfold okAdd; omega), fun q => ⟨fun q2 => b2 (by unfold okAdd; omega), fun q2 => ⟨by omega, fun q3 => ?_, fun q3 => b2 (by unfold okAdd; omega)⟩⟩⟩⟩) (fun z => ⟨fun _ => b2 (by unfold okAdd; omega), fun y => absurd rfl y⟩)
  have ok : okAdd l f d := by unfold okAdd; omega
  refine room_ok hc hv (by omega) (fun nb => ⟨fun _ => ?_, fun z => absurd z (by decide)⟩) (fun nb => ⟨fun z => absurd rfl z, fun _ => by have := hbad (fun z => nb z.2.2.1); rw [addR_4 ⟨l0, l1⟩ ok nb] at this; exact this⟩)
  have b3 : (30 ≤ A 0 0 ∨ 90 ≤ A 1 0) → Φ (-3) M := fun q => by have := hbad (fun z => z.2.2.2 q); rw [addR_3 ⟨l0, l1⟩ ok nb q] at this; exact this
  rw [hc.n, hc.ever]
  refine ⟨fun q => b3 (Or.inl q), fun q => ⟨fun q2 => ⟨hn.1, by omega, ?_⟩, fun q2 => b3 (Or.inr (by omega))⟩⟩
  have oo : okAdds A l f d := ⟨⟨l0, l1⟩, ok, nb, by omega⟩
  rintro M9 e9
  have n9 : M9 b = M b := by rw [e9]; exact zup_other (by omega)
  rw [n9, hc.n]
  refine ⟨hn.1, by omega, ?_⟩
  rintro M11 e11
  have n11 : M11 b = M b := by rw [e11, zup_other (by omega)]; exact n9
  rw [n11, hc.n]
  refine ⟨hn.1, by omega, ?_⟩
  rintro M13 e13
  have n13 : M13 b = M b := by rw [e13, zup_other (by omega)]; exact n11
  rw [n13, hc.n]
  refine ⟨hn.1, by omega, ?_⟩
  rintro M15 e15
  have n15 : M15 b = M b := by rw [e15, zup_other (by omega)]; exact n13
  rw [n15, hc.n]
  refine ⟨by omega, ?_⟩
  rintro M17 e17
  have n17 : M17 b 1 = A 1 0 := by rw [e17, zup_ne (by omega), n15]; exact hc.ever
  rw [n17]
  refine ⟨by omega, ?_⟩
  rintro M19 e19
  have n19 : M19 b 1 = A 1 0 + 1 := by rw [e19, zup_at]
  rw [n19]
  have o9 : ∀ a, a ≠ b + 1 → M9 a = M a := fun a ha => by rw [e9, zup_other ha]
  have o11 : ∀ a, a ≠ b + 2 → M11 a = M9 a := fun a ha => by rw [e11, zup_other ha]
  have o13 : ∀ a, a ≠ b + 3 → M13 a = M11 a := fun a ha => by rw [e13, zup_other ha]
  have o15 : ∀ a, a ≠ b + 4 → M15 a = M13 a := fun a ha => by rw [e15, zup_other ha]
  have o19 : ∀ a, a ≠ b → M19 a = M15 a := fun a ha => by rw [e19, zup_other ha, e17, zup_other ha]
  have x0 : ∀ k, k ≠ 0 → k ≠ 1 → M19 b k = M b k := fun k k0 k1 => by rw [e19, zup_ne k1, e17, zup_ne k0, n15]
  have K := k oo M19 (fun a ha => by rw [o19 a (by omega), o15 a (by omega), o13 a (by omega), o11 a (by omega), o9 a (by omega)]) ⟨by rw [e19, zup_ne (by omega), e17, zup_at]; rfl, n19, by rw [x0 6 (by omega) (by omega)]; exact hc.a, by rw [x0 7 (by omega) (by omega)]; exact hc.aever, by rw [x0 13 (by omega) (by omega)]; exact hc.slip, fun j j0 j1 => ?_, fun j j0 j1 => ?_, fun j j0 j1 => ?_, fun j j0 j1 => ?_, fun j j0 j1 => ?_, fun j j0 j1 => ?_, fun j j0 j1 => ?_, fun j j0 j1 => ?_, fun j j0 j1 => ?_⟩
  · rw [(okAdds_R hv oo).1] at K
    exact ⟨by omega, by rw [show A 1 0 + 1 - 1 = A 1 0 by omega]; exact K⟩
  · have j1 : j < A 0 0 + 1 := j1
    rw [o19 _ (by omega), o15 _ (by omega), o13 _ (by omega), o11 _ (by omega), e9]
    by_cases e : j = A 0 0
    · rw [e, addA_2n, zup_at]
    · rw [addA_2 e, zup_ne e]; exact hc.num j j0 (by omega)
  · have j1 : j < A 0 0 + 1 := j1
    rw [o19 _ (by omega), o15 _ (by omega), o13 _ (by omega), e11]
    by_cases e : j = A 0 0
    · rw [e, addA_3n, zup_at]
    · rw [addA_3 e, zup_ne e, o9 _ (by omega)]; exact hc.lane j j0 (by omega)
  · have j1 : j < A 0 0 + 1 := j1
    rw [o19 _ (by omega), o15 _ (by omega), e13]
    by_cases e : j = A 0 0
    · rw [e, addA_4n, zup_at]
    · rw [addA_4 e, zup_ne e, o11 _ (by omega), o9 _ (by omega)]; exact hc.first j j0 (by omega)
  · have j1 : j < A 0 0 + 1 := j1
    rw [o19 _ (by omega), e15]
    by_cases e : j = A 0 0
    · rw [e, addA_5n, zup_at]
    · rw [addA_5 e, zup_ne e, o13 _ (by omega), o11 _ (by omega), o9 _ (by omega)]; exact hc.days j j0 (by omega)
  · rw [o19 _ (by omega), o15 _ (by omega), o13 _ (by omega), o11 _ (by omega), o9 _ (by omega)]; exact hc.anum j j0 j1
  · rw [o19 _ (by omega), o15 _ (by omega), o13 _ (by omega), o11 _ (by omega), o9 _ (by omega)]; exact hc.from j j0 j1
  · rw [o19 _ (by omega), o15 _ (by omega), o13 _ (by omega), o11 _ (by omega), o9 _ (by omega)]; exact hc.to j j0 j1
  · rw [o19 _ (by omega), o15 _ (by omega), o13 _ (by omega), o11 _ (by omega), o9 _ (by omega)]; exact hc.wid j j0 j1
  · rw [o19 _ (by omega), o15 _ (by omega), o13 _ (by omega), o11 _ (by omega), o9 _ (by omega)]; exact hc.set j j0 j1
end AC

