/-! copies, the history, what an act leaves; on both sides -/
theorem cp_at {M : zM} {i j : Nat} {n x : Int} (h0 : 0 ≤ x) (h1 : x < n) : zcp M i 0 j 0 n j x = M i x := by unfold zcp; rw [if_pos ⟨rfl, h0, by omega⟩, show 0 + (x - 0) = x by omega]
theorem cp_other {M : zM} {i j a : Nat} {sp dp n : Int} (h : a ≠ j) : zcp M i sp j dp n a = M a := by funext x; unfold zcp; rw [if_neg (by omega)]
theorem copyFrom_ok {A : zA} {M : zM} {B : Int} {b c : Nat} (hv : Val B A) (hbc : b + 10 ≤ c ∨ c + 10 ≤ b) (hc : CV A M c) {Φ : zM → Prop} (h : ∀ M', (∀ a, a < b ∨ b + 10 ≤ a → M' a = M a) → CV A M' b → Φ M') : jC_copyFrom b c M Φ := by
  have hn := hv.n
  have ha := hv.a
  unfold jC_copyFrom
  rintro M1 e1 M2 e2 M3 e3 M4 e4 M5 e5 M6 e6 M7 e7 M8 e8 M9 e9 M10 e10 M11 e11 M12 e12 M13 e13 M14 e14
  have o1 : ∀ a, a ≠ b → M1 a = M a := fun a ha => by rw [e1, zup_other ha]
  have o2 : ∀ a, a ≠ b → M2 a = M a := fun a ha => by rw [e2, zup_other ha, o1 a ha]
  have o3 : ∀ a, a ≠ b + 1 → M3 a = M2 a := fun a ha => by rw [e3, cp_other ha]
  have o4 : ∀ a, a ≠ b + 2 → M4 a = M3 a := fun a ha => by rw [e4, cp_other ha]
  have o5 : ∀ a, a ≠ b + 3 → M5 a = M4 a := fun a ha => by rw [e5, cp_other ha]
  have o6 : ∀ a, a ≠ b + 4 → M6 a = M5 a := fun a ha => by rw [e6, cp_other ha]
  have o7 : ∀ a, a ≠ b → M7 a = M6 a := fun a ha => by rw [e7, zup_other ha]
  have o8 : ∀ a, a ≠ b → M8 a = M7 a := fun a ha => by rw [e8, zup_other ha]
  have o9 : ∀ a, a ≠ b + 5 → M9 a = M8 a := fun a ha => by rw [e9, cp_other ha]
  have o10 : ∀ a, a ≠ b + 6 → M10 a = M9 a := fun a ha => by rw [e10, cp_other ha]
  have o11 : ∀ a, a ≠ b + 7 → M11 a = M10 a := fun a ha => by rw [e11, cp_other ha]
  have o12 : ∀ a, a ≠ b + 8 → M12 a = M11 a := fun a ha => by rw [e12, cp_other ha]
  have o13 : ∀ a, a ≠ b + 9 → M13 a = M12 a := fun a ha => by rw [e13, cp_other ha]
  have o14 : ∀ a, a ≠ b → M14 a = M13 a := fun a ha => by rw [e14, zup_other ha]
  have q2 : ∀ a, a < b ∨ b + 10 ≤ a → M2 a = M a := fun a h => o2 a (by omega)
  have q3 : ∀ a, a < b ∨ b + 10 ≤ a → M3 a = M a := fun a h => (o3 a (by omega)).trans (q2 a h)
  have q4 : ∀ a, a < b ∨ b + 10 ≤ a → M4 a = M a := fun a h => (o4 a (by omega)).trans (q3 a h)
  have q5 : ∀ a, a < b ∨ b + 10 ≤ a → M5 a = M a := fun a h => (o5 a (by omega)).trans (q4 a h)
  have q6 : ∀ a, a < b ∨ b + 10 ≤ a → M6 a = M a := fun a h => (o6 a (by omega)).trans (q5 a h)
  have q7 : ∀ a, a < b ∨ b + 10 ≤ a → M7 a = M a := fun a h => (o7 a (by omega)).trans (q6 a h)
  have q8 : ∀ a, a < b ∨ b + 10 ≤ a → M8 a = M a := fun a h => (o8 a (by omega)).trans (q7 a h)
  have q9 : ∀ a, a < b ∨ b + 10 ≤ a → M9 a = M a := fun a h => (o9 a (by omega)).trans (q8 a h)
  have q10 : ∀ a, a < b ∨ b + 10 ≤ a → M10 a = M a := fun a h => (o10 a (by omega)).trans (q9 a h)
  have q11 : ∀ a, a < b ∨ b + 10 ≤ a → M11 a = M a := fun a h => (o11 a (by omega)).trans (q10 a h)
  have q12 : ∀ a, a < b ∨ b + 10 ≤ a → M12 a = M a := fun a h => (o12 a (by omega)).trans (q11 a h)
  have q13 : ∀ a, a < b ∨ b + 10 ≤ a → M13 a = M a := fun a h => (o13 a (by omega)).trans (q12 a h)
  have q14 : ∀ a, a < b ∨ b + 10 ≤ a → M14 a = M a := fun a h => (o14 a (by omega)).trans (q13 a h)
  have b6 : M6 b = M2 b := by rw [o6 b (by omega), o5 b (by omega), o4 b (by omega), o3 b (by omega)]
  have b13 : M13 b = M8 b := by rw [o13 b (by omega), o12 b (by omega), o11 b (by omega), o10 b (by omega), o9 b (by omega)]
  have m1c : M1 c = M c := o1 c (by omega)
  have m6c : M6 c = M c := q6 c (by omega)
  have m7c : M7 c = M c := q7 c (by omega)
  have m13c : M13 c = M c := q13 c (by omega)
  have x0 : ∀ k, k ≠ 0 → k ≠ 1 → k ≠ 6 → k ≠ 7 → k ≠ 13 → M14 b k = M b k := fun k k0 k1 k6 k7 k13 => by
    rw [e14, zup_ne k13, b13, e8, zup_ne k7, e7, zup_ne k6, b6, e2, zup_ne k1, e1, zup_ne k0]
  have v0 : M14 b 0 = M c 0 := by rw [e14, zup_ne (by omega), b13, e8, zup_ne (by omega), e7, zup_ne (by omega), b6, e2, zup_ne (by omega), e1, zup_at]
  have v1 : M14 b 1 = M c 1 := by rw [e14, zup_ne (by omega), b13, e8, zup_ne (by omega), e7, zup_ne (by omega), b6, e2, zup_at, m1c]
  have v6 : M14 b 6 = M c 6 := by rw [e14, zup_ne (by omega), b13, e8, zup_ne (by omega), e7, zup_at, m6c]
  have v7 : M14 b 7 = M c 7 := by rw [e14, zup_ne (by omega), b13, e8, zup_at, m7c]
  have v13 : M14 b 13 = M c 13 := by rw [e14, zup_at, m13c]
  refine h M14 q14 ⟨v0.trans hc.n, v1.trans hc.ever, v6.trans hc.a, v7.trans hc.aever, v13.trans hc.slip, ?_, ?_, ?_, ?_, ?_, ?_, ?_, ?_, ?_⟩
  · intro j j0 j1
    rw [o14 _ (by omega), o13 _ (by omega), o12 _ (by omega), o11 _ (by omega), o10 _ (by omega), o9 _ (by omega), o8 _ (by omega), o7 _ (by omega), o6 _ (by omega), o5 _ (by omega), o4 _ (by omega), e3, cp_at j0 (by omega), q2 _ (by omega)]
    exact hc.num j j0 j1
  · intro j j0 j1
    rw [o14 _ (by omega), o13 _ (by omega), o12 _ (by omega), o11 _ (by omega), o10 _ (by omega), o9 _ (by omega), o8 _ (by omega), o7 _ (by omega), o6 _ (by omega), o5 _ (by omega), e4, cp_at j0 (by omega), q3 _ (by omega)]
    exact hc.lane j j0 j1
  · intro j j0 j1
    rw [o14 _ (by omega), o13 _ (by omega), o12 _ (by omega), o11 _ (by omega), o10 _ (by omega), o9 _ (by omega), o8 _ (by omega), o7 _ (by omega), o6 _ (by omega), e5, cp_at j0 (by omega), q4 _ (by omega)]
    exact hc.first j j0 j1
  · intro j j0 j1
    rw [o14 _ (by omega), o13 _ (by omega), o12 _ (by omega), o11 _ (by omega), o10 _ (by omega), o9 _ (by omega), o8 _ (by omega), o7 _ (by omega), e6, cp_at j0 (by omega), q5 _ (by omega)]
    exact hc.days j j0 j1
  · intro j j0 j1
    rw [o14 _ (by omega), o13 _ (by omega), o12 _ (by omega), o11 _ (by omega), o10 _ (by omega), e9, cp_at j0 (by omega), q8 _ (by omega)]
    exact hc.anum j j0 j1
  · intro j j0 j1
    rw [o14 _ (by omega), o13 _ (by omega), o12 _ (by omega), o11 _ (by omega), e10, cp_at j0 (by omega), q9 _ (by omega)]
    exact hc.from j j0 j1
  · intro j j0 j1
    rw [o14 _ (by omega), o13 _ (by omega), o12 _ (by omega), e11, cp_at j0 (by omega), q10 _ (by omega)]
    exact hc.to j j0 j1
  · intro j j0 j1
    rw [o14 _ (by omega), o13 _ (by omega), e12, cp_at j0 (by omega), q11 _ (by omega)]
    exact hc.wid j j0 j1
  · intro j j0 j1
    rw [o14 _ (by omega), e13, cp_at j0 (by omega), q12 _ (by omega)]
    exact hc.set j j0 j1
/-! the whole state -/
def IX (A : zA) (H : Int → zA) (h fl : Int) (S : zA) (L : Int) (T : Int → Int) (M : zM) : Prop :=
  CV A M 0 ∧ M 71 2 = h ∧ (0 ≤ M 71 1 ∧ M 71 1 < 4) ∧ (∀ i, 0 ≤ i → i < h → CV (H i) M (30 + 10 * ((M 71 1 + i) % 4).toNat)) ∧ M 70 3 = fl ∧ (¬ fl = 0 → CV S M 20) ∧ M 73 1 = L ∧ ∀ i, 0 ≤ i → i < L → M 74 i = T i
def VS (B : Int) (A : zA) (H : Int → zA) (h fl : Int) (S : zA) (L : Int) (T : Int → Int) : Prop :=
  Val B A ∧ (0 ≤ h ∧ h ≤ 4) ∧ (∀ i, 0 ≤ i → i < h → Val B (H i)) ∧ (fl = 0 ∨ fl = 1) ∧ (¬ fl = 0 → Val B S) ∧ (0 ≤ L ∧ L ≤ 60) ∧ ∀ i, 0 ≤ i → i < L → 0 ≤ T i ∧ T i < 65536
def hsH (A : zA) (H : Int → zA) (h : Int) : Int → zA := fun i => if h = 4 then (if i = 3 then A else H (i + 1)) else if i = h then A else H i
def hsN (h : Int) : Int := if h = 4 then 4 else h + 1
section HS
variable {A A' S : zA} {H : Int → zA} {h fl L B : Int} {T : Int → Int} {M M' : zM}
theorem VS.push (hV : VS B A H h fl S L T) (hv : Val B A') : VS B A' (hsH A H h) (hsN h) fl S L T := by
  obtain ⟨v, hh, vH, r⟩ := hV
  refine ⟨hv, by unfold hsN; by_cases e : h = 4 <;> simp only [e, if_true, if_false] <;> omega, fun i i0 i1 => ?_, r⟩
  unfold hsH
  unfold hsN at i1
  by_cases e : h = 4
  · rw [if_pos e]; rw [if_pos e] at i1
    by_cases e2 : i = 3
    · rw [if_pos e2]; exact v
    · rw [if_neg e2]; exact vH _ (by omega) (by omega)
  · rw [if_neg e]; rw [if_neg e] at i1
    by_cases e2 : i = h
    · rw [if_pos e2]; exact v
    · rw [if_neg e2]; exact vH _ (by omega) (by omega)
theorem IX.same (hI : IX A H h fl S L T M) (h1 : ∀ a, a < 10 ∨ (20 ≤ a ∧ a < 72) → M' a = M a) (h2 : M' 73 1 = M 73 1) (h3 : M' 74 = M 74) : IX A H h fl S L T M' := by
  obtain ⟨i1, i2, i3, i4, i5, i6, i7, i8⟩ := hI
  refine ⟨i1.same (fun a a0 a1 => h1 a (by omega)), ?_, ?_, fun i i0 q => ?_, ?_, fun q => (i6 q).same (fun a a0 a1 => h1 a (by omega)), h2.trans i7, fun i i0 q => by rw [h3]; exact i8 i i0 q⟩
  · rw [h1 71 (by omega)]; exact i2
  · rw [h1 71 (by omega)]; exact i3
  · rw [h1 71 (by omega)]; exact (i4 i i0 q).same (fun a a0 a1 => h1 a (by omega))
  · rw [h1 70 (by omega)]; exact i5
theorem record1_ok {G : Int → zA} (hv : Val B A) (hc : CV A M 0) (h0 : 0 ≤ M 71 1 ∧ M 71 1 < 4) (h1 : 0 ≤ M 71 2 ∧ M 71 2 ≤ 3) (hG : ∀ i, 0 ≤ i → i < M 71 2 → CV (G i) M (30 + 10 * ((M 71 1 + i) % 4).toNat)) {Φ : zM → Prop} (k : ∀ M', (∀ a, a < 30 ∨ (70 ≤ a ∧ a ≠ 71) → M' a = M a) → M' 71 1 = M 71 1 → M' 71 2 = M 71 2 + 1 → (∀ i, 0 ≤ i → i < M 71 2 + 1 → CV (if i = M 71 2 then A else G i) M' (30 + 10 * ((M 71 1 + i) % 4).toNat)) → Φ M') : jH_record_J30 0 Φ M := by
  unfold jH_record_J30
  refine ⟨by omega, by omega, by omega, by omega, ?_⟩
  rintro _ rfl
  refine copyFrom_ok hv (Or.inr (by omega)) hc (fun M1 hs hc1 => ?_)
  have e71 : M1 71 = M 71 := hs 71 (by omega)
  rw [e71]
  refine ⟨by omega, ?_⟩
  rintro _ rfl
  refine k _ (fun a ha => (zup_other (by omega)).trans (hs a (by omega))) ?_ ?_ (fun i i0 i1 => ?_)
  · rw [zup_ne (by omega), e71]
  · rw [zup_at]
  · by_cases e : i = M 71 2
    · rw [if_pos e, e]; exact hc1.same (fun a a0 a1 => zup_other (by omega))
    · rw [if_neg e]; exact (hG i i0 (by omega)).same (fun a a0 a1 => (zup_other (by omega)).trans (hs a (by omega)))
theorem settle_ok (hV : VS B A H h fl S L T) (hI : IX A H h fl S L T M) (hv' : Val B A') (hc' : CV A' M 10) {r : Int} (r0 : 0 ≤ r) {Φ : Int → zM → Prop} (k : ∀ M', IX A' (hsH A H h) (hsN h) fl S L T M' → Φ r M') : jB_settle r M Φ := by
  obtain ⟨i1, i2, i3, i4, i5, i6, i7, i8⟩ := hI
  obtain ⟨v, hh, vH, vr⟩ := hV
  unfold jB_settle
  refine ⟨fun q => by omega, fun _ => ?_⟩
  have fin : ∀ (M1 : zM) (G : Int → zA) (o : Int), (0 ≤ o ∧ o < 4) → (∀ a, a < 30 ∨ (70 ≤ a ∧ a ≠ 71) → M1 a = M a) → M1 71 1 = o → M1 71 2 = hsN h → (∀ i, 0 ≤ i → i < hsN h → CV (hsH A H h i) M1 (30 + 10 * ((o + i) % 4).toNat)) → jC_copyFrom 0 10 M1 (fun M2 => Φ r M2) := by
    intro M1 G o ho hs e1 e2 e3
    refine copyFrom_ok hv' (Or.inl (by omega)) (hc'.same (fun a a0 a1 => hs a (by omega))) (fun M2 hs2 hc2 => k M2 ⟨hc2, ?_, ?_, fun i i0 q => ?_, ?_, fun q => ?_, ?_, fun i i0 q => ?_⟩)
    · rw [hs2 71 (by omega)]; exact e2
    · rw [hs2 71 (by omega), e1]; exact ho
    · rw [hs2 71 (by omega), e1]; exact (e3 i i0 q).same (fun a a0 a1 => hs2 a (by omega))
    · rw [hs2 70 (by omega), hs 70 (by omega)]; exact i5
    · exact (i6 q).same (fun a a0 a1 => (hs2 a (by omega)).trans (hs a (by omega)))
    · rw [hs2 73 (by omega), hs 73 (by omega)]; exact i7
    · rw [hs2 74 (by omega), hs 74 (by omega)]; exact i8 i i0 q
  unfold jH_record
  refine ⟨fun q => ?_, fun q => ?_⟩
  · refine record1_ok v i1 i3 (by omega) (G := H) (fun i i0 q2 => i4 i i0 (by omega)) (fun M1 hs e1 e2 e3 => fin M1 H _ i3 hs e1 ?_ (fun i i0 q2 => ?_))
    · unfold hsN; rw [if_neg (by omega), e2]; omega
    · unfold hsN at q2; rw [if_neg (by omega)] at q2
      have := e3 i i0 (by omega)
      unfold hsH; rw [if_neg (by omega), ← i2]; exact this
  · refine ⟨by omega, by omega, ?_⟩
    rintro _ rfl
    rw [show zup M 71 1 ((M 71 1 + 1) % 4) 71 2 = M 71 2 from zup_ne (by omega)]
    refine ⟨by omega, ?_⟩
    rintro _ rfl
    generalize hM2 : zup (zup M 71 1 ((M 71 1 + 1) % 4)) 71 2 (M 71 2 - 1) = M2
    have g1 : M2 71 1 = (M 71 1 + 1) % 4 := by rw [← hM2, zup_ne (by omega), zup_at]
    have g2 : M2 71 2 = 3 := by rw [← hM2, zup_at]; omega
    have gs : ∀ a, a ≠ 71 → M2 a = M a := fun a ha => by rw [← hM2, zup_other ha, zup_other ha]
    refine record1_ok v (i1.same (fun a a0 a1 => gs a (by omega))) (by omega) (by omega) (G := fun i => H (i + 1)) (fun i i0 q2 => ?_) (fun M1 hs e1 e2 e3 => fin M1 H ((M 71 1 + 1) % 4) (by omega) (fun a ha => (hs a ha).trans (gs a (by omega))) (e1.trans g1) ?_ (fun i i0 q2 => ?_))
    · rw [g1, show ((M 71 1 + 1) % 4 + i) % 4 = (M 71 1 + (i + 1)) % 4 by omega]
      exact (i4 (i + 1) (by omega) (by omega)).same (fun a a0 a1 => gs a (by omega))
    · unfold hsN; rw [if_pos (by omega), e2]; omega
    · unfold hsN at q2; rw [if_pos (by omega)] at q2
      have := e3 i i0 (by omega)
      rw [g1, g2] at this
      unfold hsH; rw [if_pos (by omega)]; exact this
theorem undoB_ok (hV : VS B A H h fl S L T) (hI : IX A H h fl S L T M) {Φ : Int → zM → Prop} (k0 : h = 0 → Φ (-5) M) (k : 0 < h → ∀ M', IX (H (h - 1)) H (h - 1) fl S L T M' → Φ (h - 1) M') : jB_undo M Φ := by
  obtain ⟨i1, i2, i3, i4, i5, i6, i7, i8⟩ := hI
  obtain ⟨v, hh, vH, vr⟩ := hV
  unfold jB_undo jH_takeLatest
  refine ⟨fun q => ⟨by omega, ?_⟩, fun q => k0 (by omega)⟩
  rintro _ rfl
  generalize hM2 : zup M 71 2 (M 71 2 - 1) = M2
  have g1 : M2 71 1 = M 71 1 := by rw [← hM2, zup_ne (by omega)]
  have g2 : M2 71 2 = h - 1 := by rw [← hM2, zup_at]; omega
  have gs : ∀ a, a ≠ 71 → M2 a = M a := fun a ha => by rw [← hM2, zup_other ha]
  rw [g1, g2]
  refine ⟨by omega, by omega, by omega, by omega, ?_⟩
  rintro _ rfl
  refine copyFrom_ok (vH (h - 1) (by omega) (by omega)) (Or.inl (by omega)) ((i4 (h - 1) (by omega) (by omega)).same (fun a a0 a1 => gs a (by omega))) (fun M3 hs hc => ?_)
  have e71 : M3 71 = M2 71 := hs 71 (by omega)
  have := k (by omega) M3 ⟨hc, by rw [e71]; exact g2, by rw [e71, g1]; exact i3, fun i i0 q2 => by rw [e71, g1]; exact (i4 i i0 (by omega)).same (fun a a0 a1 => (hs a (by omega)).trans (gs a (by omega))), by rw [hs 70 (by omega), gs 70 (by omega)]; exact i5, fun q2 => (i6 q2).same (fun a a0 a1 => (hs a (by omega)).trans (gs a (by omega))), by rw [hs 73 (by omega), gs 73 (by omega)]; exact i7, fun i i0 q2 => by rw [hs 74 (by omega), gs 74 (by omega)]; exact i8 i i0 q2⟩
  show Φ (M3 71 2) M3
  rw [e71, g2]
  exact this
end HS

