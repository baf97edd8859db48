/-! a bar moved, lanes swapped, a bar pulled -/
section AC
variable {A A' S : zA} {H : Int → zA} {h fl L B : Int} {T : Int → Int} {M M2 Mm Mx' : zM} {b : Nat}
def lfA (A : zA) (l f : Int → Int) : zA := fun k j => match k with
  | 3 => l j
  | 4 => f j
  | k => A k j
theorem lfA_CV (hc : CV A M b) {l f : Int → Int} (hs : ∀ a, a ≠ b + 2 → a ≠ b + 3 → M2 a = M a) (h2 : ∀ j, 0 ≤ j → j < A 0 0 → M2 (b + 2) j = l j) (h3 : ∀ j, 0 ≤ j → j < A 0 0 → M2 (b + 3) j = f j) : CV (lfA A l f) M2 b := by
  refine ⟨?_, ?_, ?_, ?_, ?_, fun j j0 j1 => ?_, h2, h3, fun j j0 j1 => ?_, fun j j0 j1 => ?_, fun j j0 j1 => ?_, fun j j0 j1 => ?_, fun j j0 j1 => ?_, fun j j0 j1 => ?_⟩
  · rw [hs _ (by omega) (by omega)]; exact hc.n
  · rw [hs _ (by omega) (by omega)]; exact hc.ever
  · rw [hs _ (by omega) (by omega)]; exact hc.a
  · rw [hs _ (by omega) (by omega)]; exact hc.aever
  · rw [hs _ (by omega) (by omega)]; exact hc.slip
  · rw [hs _ (by omega) (by omega)]; exact hc.num j j0 j1
  · rw [hs _ (by omega) (by omega)]; exact hc.days j j0 j1
  · rw [hs _ (by omega) (by omega)]; exact hc.anum j j0 j1
  · rw [hs _ (by omega) (by omega)]; exact hc.from j j0 j1
  · rw [hs _ (by omega) (by omega)]; exact hc.to j j0 j1
  · rw [hs _ (by omega) (by omega)]; exact hc.wid j j0 j1
  · rw [hs _ (by omega) (by omega)]; exact hc.set j j0 j1
theorem lfA_RV {σ σ' : Int → Int} (hr : RV A σ) {l f : Int → Int} (hv : Val B A) (h1 : ∀ k, (∀ j, 0 ≤ j → j < A 0 0 → k ≠ 1 + 4 * j + 1 ∧ k ≠ 1 + 4 * j + 2) → σ' k = σ k) (h2 : ∀ j, 0 ≤ j → j < A 0 0 → σ' (1 + 4 * j + 1) = l j) (h3 : ∀ j, 0 ≤ j → j < A 0 0 → σ' (1 + 4 * j + 2) = f j) : RV (lfA A l f) σ' := by
  have hn := hv.n
  have ha := hv.a
  refine ⟨(h1 _ (fun j j0 j1 => by omega)).trans hr.n, (h1 _ (fun j j0 j1 => by omega)).trans hr.ever, (h1 _ (fun j j0 j1 => by omega)).trans hr.a, (h1 _ (fun j j0 j1 => by omega)).trans hr.aever, (h1 _ (fun j j0 j1 => by omega)).trans hr.slip, fun i i0 i1 => ?_, h2, h3, fun i i0 i1 => ?_, fun i i0 i1 => ?_, fun i i0 i1 => ?_, fun i i0 i1 => ?_, fun i i0 i1 => ?_, fun i i0 i1 => ?_⟩
  · have i1 : i < A 0 0 := i1
    exact (h1 _ (fun j j0 j1 => by omega)).trans (hr.num i i0 i1)
  · have i1 : i < A 0 0 := i1
    exact (h1 _ (fun j j0 j1 => by omega)).trans (hr.days i i0 i1)
  · have i1 : i < A 6 0 := i1
    exact (h1 _ (fun j j0 j1 => by omega)).trans (hr.anum i i0 i1)
  · have i1 : i < A 6 0 := i1
    exact (h1 _ (fun j j0 j1 => by omega)).trans (hr.from i i0 i1)
  · have i1 : i < A 6 0 := i1
    exact (h1 _ (fun j j0 j1 => by omega)).trans (hr.to i i0 i1)
  · exact (h1 _ (fun j j0 j1 => by omega)).trans (hr.wid i i0 i1)
  · exact (h1 _ (fun j j0 j1 => by omega)).trans (hr.set i i0 i1)
theorem lfA_val (hv : Val B A) {l f : Int → Int} (h1 : ∀ j, 0 ≤ j → j < A 0 0 → 0 ≤ l j ∧ l j < 12) (h2 : ∀ j, 0 ≤ j → j < A 0 0 → 0 ≤ f j ∧ f j + A 5 j ≤ 200) (h3 : ∀ i j, 0 ≤ i → i < A 0 0 → 0 ≤ j → j < A 0 0 → i ≠ j → l i = l j → f i + A 5 i ≤ f j ∨ f j + A 5 j ≤ f i) : Val B (lfA A l f) :=
  ⟨hv.n, hv.ever, hv.a, hv.aever, hv.slip, hv.num, hv.numlt, h1, fun j j0 j1 => by have a := h2 j j0 j1; have c := hv.day j j0 j1; show 0 ≤ f j ∧ f j < 200 ∧ 1 ≤ A 5 j ∧ A 5 j ≤ 30 ∧ f j + A 5 j ≤ 200; omega, h3, hv.anum, hv.anumlt, hv.from, hv.to, hv.wid, hv.set0, hv.set1⟩
-- a bar moved
def movA (A : zA) (s l f : Int) : zA := lfA A (fun j => if j = s then l else A 3 j) (fun j => if j = s then f else A 4 j)
theorem movA_val (hv : Val B A) {s l f : Int} (s0 : 0 ≤ s) (s1 : s < A 0 0) (l0 : 0 ≤ l) (l1 : l < 12) (f0 : 0 ≤ f) (f1 : f + A 5 s ≤ 200) (nb : noBar A l f (f + A 5 s) s) : Val B (movA A s l f) := by
  refine lfA_val hv (fun j j0 j1 => ?_) (fun j j0 j1 => ?_) (fun i j i0 i1 j0 j1 ij e => ?_)
  · by_cases q : j = s
    · simp only [if_pos q]; omega
    · simp only [if_neg q]; exact hv.lane j j0 j1
  · by_cases q : j = s
    · simp only [if_pos q]; subst q; exact ⟨f0, f1⟩
    · simp only [if_neg q]; have := hv.day j j0 j1; omega
  · have vi := hv.day i i0 i1
    have vj := hv.day j j0 j1
    by_cases q : i = s
    · have q2 : ¬ j = s := by omega
      simp only [if_pos q, if_neg q2] at e ⊢
      have := nb j j0 j1 q2 e.symm
      subst q
      omega
    · by_cases q2 : j = s
      · simp only [if_neg q, if_pos q2] at e ⊢
        have := nb i i0 i1 q e
        subst q2
        omega
      · simp only [if_neg q, if_neg q2] at e ⊢
        exact hv.apart i j i0 i1 j0 j1 ij e
theorem move_pair {Mx : zM} (hp : PI B Mx Mm) (p l f : Int) (hf : i32 f) : jB_move p l f Mx (fun r Mx' => jM_move p l f Mm (fun r' Mm' => r' = r ∧ PI B Mx' Mm')) := by
  obtain ⟨A, H, h, fl, S, L, T, hV, hX, hM⟩ := hp
  have hv := hV.1
  have hn := hv.n
  unfold jB_move
  refine slotOf_ok hX.1 hv (fun s s0 s1 es => ⟨fun z => by omega, fun _ => ?_⟩) (fun hno => ⟨fun _ => ?_, fun z => absurd (by decide) z⟩)
  · have ds := hv.day s s0 s1
    -- what the other side says, once the place is known
    have ref : ∀ (Φ : Int → zM → Prop) (M1 : zM), RV A (M1 1) → (¬ (0 ≤ l ∧ l < 12) → Φ (-1) M1) → ((0 ≤ l ∧ l < 12) → ¬ (0 ≤ f ∧ f + A 5 s ≤ 200) → Φ (-2) M1) → ((0 ≤ l ∧ l < 12) → (0 ≤ f ∧ f + A 5 s ≤ 200) → A 3 s = l → A 4 s = f → Φ (-5) M1) → ((0 ≤ l ∧ l < 12) → (0 ≤ f ∧ f + A 5 s ≤ 200) → ¬ (A 3 s = l ∧ A 4 s = f) → ¬ noBar A l f (f + A 5 s) s → Φ (-4) M1) → ((0 ≤ l ∧ l < 12) → (0 ≤ f ∧ f + A 5 s ≤ 200) → ¬ (A 3 s = l ∧ A 4 s = f) → noBar A l f (f + A 5 s) s → ∀ M4, (∀ q, q ≠ 1 → M4 q = M1 q) → RV (movA A s l f) (M4 1) → Φ (undrA (movA A s l f)) M4) → jM_moves p l f M1 Φ := by
      intro Φ M1 hr b1 b2 b5 b4 ok
      unfold jM_moves
      refine find_ok hr hv (fun s' s0' s1' es' => ?_) (fun hno => absurd es (hno s s0 s1))
      have e : s' = s := hv.uniq s0' s1' s0 s1 (es'.trans es.symm)
      subst e
      refine ⟨fun z => by omega, fun _ => isLaneM_ok (fun l0 l1 => ⟨fun _ => in_ok (fun f0 f1 => ⟨fun z => absurd z (by decide), fun _ => of3_ok hr hv s0 s1 ⟨by omega, fun q => ?_, fun q => b2 ⟨l0, l1⟩ (fun z => q z.2)⟩⟩) (fun z => ⟨fun _ => b2 ⟨l0, l1⟩ (by omega), fun y => absurd rfl y⟩), fun z => absurd z (by decide)⟩) (fun z => ⟨fun y => absurd rfl y, fun _ => b1 z⟩)⟩
      have jj : ¬ (A 3 s' = l ∧ A 4 s' = f) → jM_moves_J77 p l f Φ s' M1 := by
        intro hne
        unfold jM_moves_J77
        refine of3_ok hr hv s0 s1 ⟨by omega, by omega, within_ok hr hv (fun k k0 k1 hk => ⟨fun z => by omega, fun _ => b4 ⟨l0, l1⟩ ⟨f0, q⟩ hne (fun z => z k k0 k1 hk.1 hk.2.2.1 ⟨by have := hk.2.2.2.1; omega, hk.2.2.2.2⟩)⟩) (fun hk => ⟨fun _ => ?_, fun z => absurd rfl z⟩)⟩
        have nb : noBar A l f (f + A 5 s') s' := fun k k0 k1 ks e z => hk k k0 k1 ⟨ks, by omega, e, by omega, z.2⟩
        refine ⟨by omega, by omega, by omega, by omega, by omega, ?_⟩
        rintro M22 e22
        refine ⟨by omega, by omega, by omega, by omega, by omega, ?_⟩
        rintro M27 e27
        have hs27 : ∀ q, q ≠ 1 → M27 q = M1 q := fun q hq => by rw [e27, zup_other hq, e22, zup_other hq]
        have hr27 : RV (movA A s' l f) (M27 1) := lfA_RV hr hv (fun k hk => by rw [e27, zup_ne (hk s' s0 s1).2, e22, zup_ne (hk s' s0 s1).1]) (fun j j0 j1 => by
          rw [e27, zup_ne (by omega), e22]
          by_cases q2 : j = s'
          · rw [if_pos q2, q2, zup_at]
          · rw [if_neg q2, zup_ne (by omega)]; exact hr.lane j j0 j1) (fun j j0 j1 => by
          rw [e27]
          by_cases q2 : j = s'
          · rw [if_pos q2, q2, zup_at]
          · rw [if_neg q2, zup_ne (by omega), e22, zup_ne (by omega)]; exact hr.first j j0 j1)
        exact notDrawn_ok hr27 (movA_val hv s0 s1 l0 l1 f0 q nb) (ok ⟨l0, l1⟩ ⟨f0, q⟩ hne nb M27 hs27 hr27)
      exact of1_ok hr hv s0 s1 ⟨fun q1 => jj (fun z => q1 z.1), fun q1 => of2_ok hr hv s0 s1 ⟨fun q2 => jj (fun z => q2 z.2), fun q2 => b5 ⟨l0, l1⟩ ⟨f0, q⟩ q1 q2⟩⟩
    have back : ∀ (Mx' : zM) (r : Int), r < 0 → IX A H h fl S L T Mx' → (¬ (0 ≤ l ∧ l < 12) → r = -1) → ((0 ≤ l ∧ l < 12) → ¬ (0 ≤ f ∧ f + A 5 s ≤ 200) → r = -2) → ((0 ≤ l ∧ l < 12) → (0 ≤ f ∧ f + A 5 s ≤ 200) → A 3 s = l → A 4 s = f → r = -5) → ((0 ≤ l ∧ l < 12) → (0 ≤ f ∧ f + A 5 s ≤ 200) → ¬ (A 3 s = l ∧ A 4 s = f) → ¬ noBar A l f (f + A 5 s) s → r = -4) → ((0 ≤ l ∧ l < 12) → (0 ≤ f ∧ f + A 5 s ≤ 200) → ¬ (A 3 s = l ∧ A 4 s = f) → ¬ noBar A l f (f + A 5 s) s) → jM_move p l f Mm (fun r' Mm' => r' = r ∧ PI B Mx' Mm') := by
      intro Mx' r r0 hX' c1 c2 c5 c4 cok
      unfold jM_move
      refine putAside_ok (fun M1 hs1 ha1 => ?_)
      have fb : ∀ r', r = r' → jM_act r' M1 (fun r' Mm' => r' = r ∧ PI B Mx' Mm') := fun r' e => by
        subst e; exact bad_ok hV hM (fun q q1 q2 q6 => hs1 q q2) ha1 r0 hX'
      exact ref _ M1 (by rw [hs1 1 (by omega)]; exact hM.1) (fun z => fb _ (c1 z)) (fun z z2 => fb _ (c2 z z2)) (fun z z2 z3 z4 => fb _ (c5 z z2 z3 z4)) (fun z z2 z3 z4 => fb _ (c4 z z2 z3 z4)) (fun z z2 z3 z4 => absurd z4 (cok z z2 z3))
    refine isLane_ok (fun l0 l1 => ⟨fun _ => isDay_ok (fun f0 f1 => ⟨fun z => absurd z (by decide), fun _ => ?_⟩) (fun z => ⟨fun _ => back Mx (-2) (by omega) hX (fun y => absurd ⟨l0, l1⟩ y) (fun _ _ => rfl) (fun _ y => by omega) (fun _ y => by omega) (fun _ y => by omega), fun y => absurd rfl y⟩), fun z => absurd z (by decide)⟩) (fun z => ⟨fun y => absurd rfl y, fun _ => back Mx (-1) (by omega) hX (fun _ => rfl) (fun y => absurd y z) (fun y => absurd y z) (fun y => absurd y z) (fun y => absurd y z)⟩)
    rw [show Mx 4 s = A 5 s from hX.1.days s s0 s1, show Mx 2 s = A 3 s from hX.1.lane s s0 s1, show Mx 3 s = A 4 s from hX.1.first s s0 s1]
    have jj : f + A 5 s ≤ 200 → ¬ (A 3 s = l ∧ A 4 s = f) → jB_move_J83 p l f (fun r Mx' => jM_move p l f Mm (fun r' Mm' => r' = r ∧ PI B Mx' Mm')) s Mx := by
      intro q hne
      unfold jB_move_J83
      rw [show Mx 4 s = A 5 s from hX.1.days s s0 s1]
      refine ⟨s0, by omega, room_ok hX.1 hv (by omega) (fun nb => ⟨fun _ => ?_, fun z => absurd z (by decide)⟩) (fun nb => ⟨fun z => absurd rfl z, fun _ => back Mx (-4) (by omega) hX (fun y => absurd ⟨l0, l1⟩ y) (fun _ y => absurd ⟨f0, q⟩ y) (fun _ _ y y2 => absurd ⟨y, y2⟩ hne) (fun _ _ _ _ => rfl) (fun _ _ _ => nb)⟩)⟩
      refine copyFrom_ok hv (Or.inr (by omega)) hX.1 (fun M1 hs hc => ⟨s0, by omega, ?_⟩)
      rintro M15 e15
      refine ⟨s0, by omega, ?_⟩
      rintro M17 e17
      have vm := movA_val hv s0 s1 l0 l1 f0 q nb
      have cm : CV (movA A s l f) M17 10 := lfA_CV hc (fun a a2 a3 => by rw [e17, zup_other a3, e15, zup_other a2]) (fun j j0 j1 => by
        rw [e17, zup_other (by omega), e15]
        by_cases q2 : j = s
        · rw [if_pos q2, q2]; exact zup_at _ _ _ _
        · rw [if_neg q2]; exact (zup_ne q2).trans (hc.lane j j0 j1)) (fun j j0 j1 => by
        rw [e17]
        by_cases q2 : j = s
        · rw [if_pos q2, q2]; exact zup_at _ _ _ _
        · rw [if_neg q2]; exact (zup_ne q2).trans (by rw [e15, zup_other (by omega)]; exact hc.first j j0 j1))
      refine draw_ok cm vm (Or.inr (Or.inl rfl)) (fun M18 hs18 hd18 => ?_)
      have hs' : ∀ a, (a < 10 ∨ 20 ≤ a) → a < 82 → M18 a = Mx a := fun a q1 q2 => by rw [hs18 a (by omega) (by omega) (by omega), e17, zup_other (by omega), e15, zup_other (by omega)]; exact hs a (by omega)
      rw [hd18.2.2]
      have ur := undr_rng vm
      refine settle_ok hV (hX.same (fun a ha => hs' a (by omega) (by omega)) (by rw [hs' 73 (by omega) (by omega)]) (hs' 74 (by omega) (by omega))) vm (hs18.cv (Or.inr (Or.inl rfl)) cm) ur.1 (fun Mx' hX' => ?_)
      unfold jM_move
      refine putAside_ok (fun M2 hs1 ha1 => ref _ M2 (by rw [hs1 1 (by omega)]; exact hM.1) (fun z => absurd ⟨l0, l1⟩ z) (fun _ z => absurd ⟨f0, q⟩ z) (fun _ _ z z2 => absurd ⟨z, z2⟩ hne) (fun _ _ _ z => absurd nb z) (fun _ _ _ _ M4 hs4 hr4 => ?_))
      exact fin_ok hV hM (fun q q1 q2 q6 => (hs4 q q1).trans (hs1 q q2)) (fun x x0 x1 => by rw [hs4 2 (by omega)]; exact ha1 x x0 x1) hr4 vm ur.1 hX'
    refine ⟨s0, by omega, by omega, fun q => ⟨s0, by omega, fun q1 => jj q (fun z => q1 z.1), fun q1 => ⟨s0, by omega, fun q2 => jj q (fun z => q2 z.2), fun q2 => back Mx (-5) (by omega) hX (fun y => absurd ⟨l0, l1⟩ y) (fun _ y => absurd ⟨f0, q⟩ y) (fun _ _ _ _ => rfl) (fun _ _ y => absurd ⟨q1, q2⟩ y) (fun _ _ y => absurd ⟨q1, q2⟩ y)⟩⟩, fun q => back Mx (-2) (by omega) hX (fun y => absurd ⟨l0, l1⟩ y) (fun _ _ => rfl) (fun _ y => absurd y.2 q) (fun _ y => absurd y.2 q) (fun _ y => absurd y.2 q)⟩
  · unfold jM_move
    refine putAside_ok (fun M1 hs1 ha1 => ?_)
    unfold jM_moves
    exact find_ok (by rw [hs1 1 (by omega)]; exact hM.1) hv (fun s s0 s1 es => absurd es (hno s s0 s1)) (fun _ => ⟨fun _ => bad_ok hV hM (fun q q1 q2 q6 => hs1 q q2) ha1 (by omega) hX, fun z => absurd rfl z⟩)
theorem pull_pair {Mx : zM} (hp : PI B Mx Mm) (p : Int) : jB_pull p Mx (fun r Mx' => jM_pull p Mm (fun r' Mm' => r' = r ∧ PI B Mx' Mm')) := by
  obtain ⟨A, H, h, fl, S, L, T, hV, hX, hM⟩ := hp
  have hv := hV.1
  have hn := hv.n
  unfold jB_pull
  refine slotOf_ok hX.1 hv (fun s s0 s1 es => ⟨fun _ => ?_, fun z => absurd s0 z⟩) (fun hno => ⟨fun z => absurd z (by decide), fun _ => ?_⟩)
  · refine read_ok hX.1 hv (Or.inl rfl) (fun M3 hs3 ho3 hp3 => ?_)
    have hc3 : CV A M3 0 := hs3.cv (Or.inl rfl) hX.1
    have er := ear_rng hv s0 s1
    have ds := hv.day s s0 s1
    refine earliest_ok hc3 hv hp3 s0 s1 ⟨s0, by omega, ?_⟩
    rw [show M3 3 s = A 4 s from hc3.first s s0 s1]
    refine ⟨by omega, ?_⟩
    rintro _ rfl
    have hX3 := hX.same (M' := M3) (fun a ha => hs3 a (by omega) (by omega) (by omega)) (by rw [hs3 73 (by omega) (by omega) (by omega)]) (hs3 74 (by omega) (by omega) (by omega))
    have vm : Val B (lfA A (A 3) (fun j => if j = s then earA A s else A 4 j)) := by
      have pe : ∀ j, 0 ≤ j → j < A 0 0 → pushP A j s → endA A j ≤ earA A s := fun j j0 j1 hj => by have := mxI_ub (f := earF A s) j0 j1; rw [earF_t hj] at this; exact this
      refine lfA_val hv (fun j j0 j1 => hv.lane j j0 j1) (fun j j0 j1 => ?_) (fun i j i0 i1 j0 j1 ij e => ?_)
      · have dj := hv.day j j0 j1
        by_cases q : j = s
        · simp only [if_pos q]; subst q; omega
        · simp only [if_neg q]; omega
      · have ap := hv.apart i j i0 i1 j0 j1 ij e
        have di := hv.day i i0 i1
        have dj := hv.day j j0 j1
        by_cases q : i = s
        · have q2 : ¬ j = s := by omega
          simp only [if_pos q, if_neg q2]
          subst q
          rcases ap with z | z
          · exact Or.inl (by omega)
          · exact Or.inr (by have := pe j j0 j1 (Or.inl ⟨e.symm, by omega⟩); unfold endA at this; exact this)
        · by_cases q2 : j = s
          · simp only [if_neg q, if_pos q2]
            subst q2
            rcases ap with z | z
            · exact Or.inl (by have := pe i i0 i1 (Or.inl ⟨e, by omega⟩); unfold endA at this; exact this)
            · exact Or.inr (by omega)
          · simp only [if_neg q, if_neg q2]; exact ap
    have ref : ∀ (Φ : Int → zM → Prop) (M1 : zM), RV A (M1 1) → (∀ M', (∀ q, q ≠ 1 → q ≠ 7 → M' q = M1 q) → RV (lfA A (A 3) (fun j => if j = s then earA A s else A 4 j)) (M' 1) → Φ (if A 4 s - earA A s = 0 then -5 else A 4 s - earA A s) M') → jM_pulls p M1 Φ := by
      intro Φ M1 hr k
      refine pulls_ok hr hv (fun hno => absurd es (hno s s0 s1)) (fun s' s0' s1' es' M' hs' => ?_)
      have e : s' = s := hv.uniq s0' s1' s0 s1 (es'.trans es.symm)
      subst e
      refine k _ (fun q q1 q7 => (zup_other q1).trans (hs' q q7)) (lfA_RV hr hv (fun k hk => ?_) (fun j j0 j1 => ?_) (fun j j0 j1 => ?_))
      · rw [zup_ne (hk s' s0 s1).2, hs' 1 (by omega)]
      · rw [zup_ne (by omega), hs' 1 (by omega)]; exact hr.lane j j0 j1
      · by_cases q : j = s'
        · rw [if_pos q, q, zup_at]
        · rw [if_neg q, zup_ne (by omega), hs' 1 (by omega)]; exact hr.first j j0 j1
    refine ⟨fun q => ?_, fun q => ?_⟩
    · refine copyFrom_ok hv (Or.inr (by omega)) hc3 (fun M9 hs9 hc9 => ⟨s0, by omega, ?_⟩)
      rintro M11 e11
      have hs' : ∀ a, (a < 10 ∨ 20 ≤ a) → M11 a = M3 a := fun a q1 => by rw [e11, zup_other (by omega)]; exact hs9 a (by omega)
      refine settle_ok hV (hX3.same (fun a ha => hs' a (by omega)) (by rw [hs' 73 (by omega)]) (hs' 74 (by omega))) vm (lfA_CV hc9 (fun a a2 a3 => by rw [e11, zup_other a3]) (fun j j0 j1 => by rw [e11, zup_other (by omega)]; exact hc9.lane j j0 j1) (fun j j0 j1 => ?_)) (by omega) (fun Mx' hX' => ?_)
      · rw [e11]
        by_cases q2 : j = s
        · rw [if_pos q2, q2]; exact zup_at _ _ _ _
        · rw [if_neg q2]; exact (zup_ne q2).trans (hc9.first j j0 j1)
      · unfold jM_pull
        refine putAside_ok (fun M2 hs1 ha1 => ref _ M2 (by rw [hs1 1 (by omega)]; exact hM.1) (fun M4 hs4 hr4 => ?_))
        rw [if_neg q]
        exact fin_ok hV hM (fun q q1 q2 q6 => (hs4 q q1 (by omega)).trans (hs1 q q2)) (fun x x0 x1 => by rw [hs4 2 (by omega) (by omega)]; exact ha1 x x0 x1) hr4 vm (by omega) hX'
    · unfold jM_pull
      refine putAside_ok (fun M2 hs1 ha1 => ref _ M2 (by rw [hs1 1 (by omega)]; exact hM.1) (fun M4 hs4 hr4 => ?_))
      rw [if_pos q]
      exact bad_ok hV hM (fun q q1 q2 q6 => (hs4 q q1 (by omega)).trans (hs1 q q2)) (fun x x0 x1 => by rw [hs4 2 (by omega) (by omega)]; exact ha1 x x0 x1) (by omega) hX3
  · unfold jM_pull
    exact putAside_ok (fun M1 hs1 ha1 => pulls_ok (by rw [hs1 1 (by omega)]; exact hM.1) hv (fun _ => bad_ok hV hM (fun q q1 q2 q6 => hs1 q q2) ha1 (by omega) hX) (fun s s0 s1 es => absurd es (hno s s0 s1)))
end AC
