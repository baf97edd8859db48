/-! slips; what is asked of the rows -/
section AC
variable {A A' S : zA} {H : Int → zA} {h fl L B : Int} {T : Int → Int} {M M2 Mm Mx' : zM} {b : Nat}
theorem IX.scr (hI : IX A H h fl S L T M) (hs : ∀ a, a < 78 → M2 a = M a) : IX A H h fl S L T M2 := hI.same (fun a ha => hs a (by omega)) (by rw [hs 73 (by omega)]) (hs 74 (by omega))
theorem slip_gEnd (D : Int → Int) : gEnd (slipA A D) = mxI (fun j => D j + A 5 j) (A 0 0) := by
  show mxI (endA (slipA A D)) (slipA A D 0 0) = _
  rw [slipA_o (by decide) (by decide)]
  refine mxI_congr (fun j j0 j1 => ?_)
  show slipA A D 4 j + slipA A D 5 j = _
  rw [slipA_4 j0 j1, slipA_o (by decide) (by decide)]
theorem slip_slid (hv : Val B A) {a d : Int} {D : Int → Int} (d0 : 0 ≤ d) (hD : SlipP A a d D) {c x : Int} (hc : ∀ j, 0 ≤ j → j < A 0 0 → D j - A 4 j ≤ c) (x0 : 0 ≤ x) (x1 : x ≤ A 0 0) : 0 ≤ sumI (fun j => D j - A 4 j) x ∧ sumI (fun j => D j - A 4 j) x ≤ c * x := sumI_rng x0 (fun j j0 j1 => by
  have h1 := hD.1 j j0 (by omega)
  have h2 := fdA_nn hv (a := a) d0 j0 (show j < A 0 0 by omega)
  have h3 := hc j j0 (by omega)
  omega)
theorem slipA_val (hv : Val B A) {a d : Int} {D : Int → Int} (d0 : 0 ≤ d) (hD : SlipP A a d D) (h2 : mxI (fun j => D j + A 5 j) (A 0 0) ≤ 200) : Val (B + 6000) (slipA A D) := by
  have hn := hv.n
  have hsl := hv.slip
  have ub : ∀ j, 0 ≤ j → j < A 0 0 → D j + A 5 j ≤ 200 := fun j j0 j1 => by have := mxI_ub (f := fun j => D j + A 5 j) j0 j1; omega
  have lb : ∀ j, 0 ≤ j → j < A 0 0 → A 4 j ≤ D j := fun j j0 j1 => by have h1 := hD.1 j j0 j1; have h3 := fdA_nn hv (a := a) d0 j0 j1; omega
  have sl := slip_slid hv d0 hD (c := 200) (fun j j0 j1 => by have := ub j j0 j1; have := hv.day j j0 j1; omega) hn.1 (Int.le_refl _)
  have e0 : ∀ k : Nat, k ≠ 4 → k ≠ 13 → slipA A D k = A k := fun k h1 h2 => by funext j; exact slipA_o h1 h2
  unfold Val
  rw [e0 0 (by decide) (by decide), e0 1 (by decide) (by decide), e0 2 (by decide) (by decide), e0 3 (by decide) (by decide), e0 5 (by decide) (by decide), e0 6 (by decide) (by decide), e0 7 (by decide) (by decide), e0 8 (by decide) (by decide), e0 9 (by decide) (by decide), e0 10 (by decide) (by decide), e0 11 (by decide) (by decide), e0 12 (by decide) (by decide), slipA_13]
  refine ⟨hv.n, hv.ever, hv.a, hv.aever, ?_, hv.num, hv.numlt, hv.lane, fun j j0 j1 => ?_, fun i j i0 i1 j0 j1 ij e => ?_, hv.anum, hv.anumlt, hv.from, hv.to, hv.wid, hv.set0, hv.set1⟩
  · unfold slidN; omega
  · rw [slipA_4 j0 j1]
    have := ub j j0 j1
    have := lb j j0 j1
    have := hv.day j j0 j1
    omega
  · rw [slipA_4 i0 i1, slipA_4 j0 j1]
    have di := hv.day i i0 i1
    have dj := hv.day j j0 j1
    rcases hv.apart i j i0 i1 j0 j1 ij e with z | z
    · exact Or.inl (hD.2 i j i0 i1 j0 j1 (Or.inl ⟨e, by omega⟩))
    · exact Or.inr (hD.2 j i j0 j1 i0 i1 (Or.inl ⟨e.symm, by omega⟩))
theorem slipTo_ok (hc : CV A M b) (hv : Val B A) (hb : b + 10 ≤ 70) (hB : B ≤ 2000000000) {a d : Int} (d0 : 0 ≤ d) (hD : SlipP A a d (M 81)) {Φ : Int → zM → Prop} (k : ∀ M', (∀ a, a < b ∨ b + 10 ≤ a → M' a = M a) → CV (slipA A (M 81)) M' b → Φ (movedN A (M 81)) M') : jC_slipTo b M Φ := by
  have hn := hv.n
  have hsl := hv.slip
  have part := fun x => slip_slid hv d0 hD (c := 1200) (x := x) (fun j j0 j1 => by have := hD.1 j j0 j1; have := hv.day j j0 j1; omega)
  unfold jC_slipTo
  refine zwh_run (fun v : Int × Int × zM => 0 ≤ v.2.1 ∧ v.2.1 ≤ A 0 0 ∧ v.1 = cntA (fun j => decide (M 81 j ≠ A 4 j)) v.2.1 ∧ (∀ a, a ≠ b → a ≠ b + 3 → v.2.2 a = M a) ∧ (∀ x, x ≠ 13 → v.2.2 b x = M b x) ∧ v.2.2 b 13 = A 13 0 + sumI (fun j => M 81 j - A 4 j) v.2.1 ∧ ∀ j, 0 ≤ j → j < A 0 0 → v.2.2 (b + 3) j = if j < v.2.1 then M 81 j else A 4 j) (fun v => (A 0 0 - v.2.1).toNat) ?_ (0, 0, M) ⟨Int.le_refl 0, hn.1, rfl, fun _ _ _ => rfl, fun _ _ => rfl, by show M b 13 = A 13 0 + sumI _ 0; rw [sumI_0, hc.slip]; omega, fun j j0 j1 => by rw [if_neg (by show ¬ j < 0; omega)]; exact hc.first j j0 j1⟩
  rintro K ⟨c, x, M1⟩ ⟨x0, x1, hcn, hs, hbb, h13, h3⟩ hK
  have x0 : 0 ≤ x := x0
  have x1 : x ≤ A 0 0 := x1
  have hcn : c = cntA (fun j => decide (M 81 j ≠ A 4 j)) x := hcn
  have hsn : ∀ a, a ≠ b → a ≠ b + 3 → M1 a = M a := hs
  have hbn : ∀ x, x ≠ 13 → M1 b x = M b x := hbb
  have h13n : M1 b 13 = A 13 0 + sumI (fun j => M 81 j - A 4 j) x := h13
  have h3n : ∀ j, 0 ≤ j → j < A 0 0 → M1 (b + 3) j = if j < x then M 81 j else A 4 j := h3
  have cr := cntA_rng (p := fun j => decide (M 81 j ≠ A 4 j)) x0
  show jC_slipTo_L4 b K Φ c x M1
  unfold jC_slipTo_L4
  rw [hbn 0 (by omega), hc.n, hsn 81 (by omega) (by omega)]
  refine ⟨fun q => ?_, fun q => ⟨x0, by omega, x0, by omega, ?_⟩⟩
  · have ex : x = A 0 0 := by omega
    rw [hcn, ex]
    refine k M1 (fun a ha => hsn a (by omega) (by omega)) ⟨?_, ?_, ?_, ?_, ?_, fun j j0 j1 => ?_, fun j j0 j1 => ?_, fun j j0 j1 => ?_, fun j j0 j1 => ?_, fun j j0 j1 => ?_, fun j j0 j1 => ?_, fun j j0 j1 => ?_, fun j j0 j1 => ?_, fun j j0 j1 => ?_⟩
    · rw [slipA_o (by decide) (by decide), hbn 0 (by omega)]; exact hc.n
    · rw [slipA_o (by decide) (by decide), hbn 1 (by omega)]; exact hc.ever
    · rw [slipA_o (by decide) (by decide), hbn 6 (by omega)]; exact hc.a
    · rw [slipA_o (by decide) (by decide), hbn 7 (by omega)]; exact hc.aever
    · rw [slipA_13, h13n, ex]; rfl
    · rw [slipA_o (by decide) (by decide)] at j1 ⊢; rw [hsn _ (by omega) (by omega)]; exact hc.num j j0 j1
    · rw [slipA_o (by decide) (by decide)] at j1 ⊢; rw [hsn _ (by omega) (by omega)]; exact hc.lane j j0 j1
    · rw [slipA_o (by decide) (by decide)] at j1; rw [slipA_4 j0 j1, h3n j j0 j1, if_pos (by omega)]
    · rw [slipA_o (by decide) (by decide)] at j1 ⊢; rw [hsn _ (by omega) (by omega)]; exact hc.days j j0 j1
    · rw [slipA_o (by decide) (by decide)] at j1 ⊢; rw [hsn _ (by omega) (by omega)]; exact hc.anum j j0 j1
    · rw [slipA_o (by decide) (by decide)] at j1 ⊢; rw [hsn _ (by omega) (by omega)]; exact hc.from j j0 j1
    · rw [slipA_o (by decide) (by decide)] at j1 ⊢; rw [hsn _ (by omega) (by omega)]; exact hc.to j j0 j1
    · rw [slipA_o (by decide) (by decide), hsn _ (by omega) (by omega)]; exact hc.wid j j0 j1
    · rw [slipA_o (by decide) (by decide), hsn _ (by omega) (by omega)]; exact hc.set j j0 j1
  · have hx := h3n x x0 (by omega)
    rw [if_neg (by omega)] at hx
    have p1 := part x x0 x1
    have p2 := part (x + 1) (by omega) (by omega)
    rw [sumI_s _ x0] at p2
    rw [hx]
    have Dx := hD.1 x x0 (by omega)
    have dx := hv.day x x0 (by omega)
    have lx := fdA_nn hv (a := a) d0 x0 (show x < A 0 0 by omega)
    refine ⟨fun e => ⟨by omega, ?_⟩, fun e => ⟨x0, by omega, x0, by omega, by omega, ?_⟩⟩
    · rintro _ rfl
      refine hK (c, x + 1, M1) ⟨by show 0 ≤ x + 1; omega, by show x + 1 ≤ A 0 0; omega, by show c = cntA _ (x + 1); rw [cntA_f x0 (by rw [decide_eq_true_iff]; exact fun y => y e), hcn]; omega, hsn, hbn, by show M1 b 13 = A 13 0 + sumI _ (x + 1); rw [sumI_s _ x0, h13n]; omega, fun j j0 j1 => ?_⟩ (by show (A 0 0 - (x + 1)).toNat < (A 0 0 - x).toNat; omega)
      show M1 (b + 3) j = if j < x + 1 then M 81 j else A 4 j
      rw [h3n j j0 j1]
      by_cases e2 : j = x
      · rw [e2, if_neg (by omega), if_pos (by omega)]; exact e.symm
      · by_cases e3 : j < x
        · rw [if_pos e3, if_pos (by omega)]
        · rw [if_neg e3, if_neg (by omega)]
    · rw [h13n]
      refine ⟨by omega, ?_⟩
      rintro M8 e8
      refine ⟨x0, by omega, x0, by omega, ?_⟩
      rintro M11 e11
      have g81 : M8 81 = M 81 := by rw [e8, zup_other (by omega)]; exact hsn 81 (by omega) (by omega)
      rw [g81] at e11
      refine ⟨by omega, ?_⟩
      rintro _ rfl
      refine ⟨by omega, ?_⟩
      rintro _ rfl
      refine hK (c + 1, x + 1, M11) ⟨by show 0 ≤ x + 1; omega, by show x + 1 ≤ A 0 0; omega, by show c + 1 = cntA _ (x + 1); rw [cntA_t x0 (by rw [decide_eq_true_iff]; exact e), hcn], fun a a1 a2 => by show M11 a = M a; rw [e11, zup_other a2, e8, zup_other a1]; exact hsn a a1 a2, fun y hy => by show M11 b y = M b y; rw [e11, zup_other (by omega), e8, zup_ne hy]; exact hbn y hy, by show M11 b 13 = A 13 0 + sumI _ (x + 1); rw [e11, zup_other (by omega), e8, zup_at, sumI_s _ x0]; omega, fun j j0 j1 => ?_⟩ (by show (A 0 0 - (x + 1)).toNat < (A 0 0 - x).toNat; omega)
      show M11 (b + 3) j = if j < x + 1 then M 81 j else A 4 j
      rw [e11]
      by_cases e2 : j = x
      · rw [e2, if_pos (by omega), zup_at]
      · rw [zup_ne e2, e8, zup_other (by omega), h3n j j0 j1]
        by_cases e3 : j < x
        · rw [if_pos e3, if_pos (by omega)]
        · rw [if_neg e3, if_neg (by omega)]
theorem movedN_nn (hv : Val B A) (D : Int → Int) : 0 ≤ movedN A D := (cntA_rng hv.n.1).1
end AC

