/-! the text read by the class -/
section AC
variable {A A' S : zA} {H : Int → zA} {h fl L B : Int} {T : Int → Int} {M M2 Mm Mx Mx' W W' W2 : zM} {b : Nat}
theorem begin_ok {f : Int} {Φ : zM → Prop} (k : Φ (begM f M)) : jT_begin f M Φ := by
  unfold jT_begin
  rintro _ rfl _ rfl _ rfl
  exact k
theorem store_ok (h0 : 0 ≤ M 73 2) {Φ : zM → Prop} (k : Φ (stoM M)) : jT_storeNumber M Φ := by
  unfold jT_storeNumber
  unfold stoM at k
  refine ⟨fun q => ⟨fun e => ⟨h0, q, ?_⟩, fun e => ⟨fun e2 => ⟨h0, q, ?_⟩, fun e2 => ⟨h0, q, ?_⟩⟩⟩, fun q => ?_⟩
  · rintro _ rfl
    rw [if_pos q, if_pos e] at k; exact k
  · rintro _ rfl
    rw [if_pos q, if_neg e, if_pos e2] at k; exact k
  · rintro _ rfl
    rw [if_pos q, if_neg e, if_neg e2] at k; exact k
  · rw [if_neg q] at k; exact k
theorem turnTo_ok {f : Int} (h0 : 0 ≤ M 73 2) {Φ : Int → zM → Prop} (k : Φ 1 (turnM f M)) : jT_turnTo f M Φ := store_ok h0 (begin_ok k)
theorem endJ_ok (h0 : 0 ≤ M 73 2 ∧ M 73 2 ≤ 100) {Φ : Int → zM → Prop} (k : Φ 1 (begM 0 (zup (stoM M) 73 2 (M 73 2 + 1)))) : jT_endPart_J30 Φ M := by
  unfold jT_endPart_J30
  refine store_ok h0.1 ?_
  rw [show stoM M 73 2 = M 73 2 by rw [stoM_73]]
  refine ⟨by omega, ?_⟩
  rintro _ rfl
  exact begin_ok k
theorem endPart_ok (h0 : 0 ≤ M 73 2 ∧ M 73 2 ≤ 100) {Φ : Int → zM → Prop} (k : Φ 1 (endM M)) : jT_endPart M Φ := by
  have h2 : 0 ≤ zeroM M 73 2 ∧ zeroM M 73 2 ≤ 100 := by rw [zeroM_73]; exact h0
  have J : jT_endPart_J30 Φ (zeroM M) := endJ_ok h2 (by rw [zeroM_73]; exact k)
  unfold jT_endPart
  unfold zeroM at J
  refine ⟨fun q => ?_, fun q => ⟨fun q2 => ?_, fun q2 => ⟨h0.1, by omega, ?_⟩⟩⟩
  · rw [if_neg (fun z => q z.1)] at J; exact J
  · rw [if_neg (fun z => by omega)] at J; exact J
  · rintro _ rfl
    rw [if_pos ⟨q, by omega⟩] at J; exact J
theorem takeDigit_ok {q c : Int} (hI : TI q M) (hq : q ≤ 60) (hc : 48 ≤ c ∧ c ≤ 57) {Φ : Int → zM → Prop} (k1 : dgOK c M → Φ 1 (dgM c M)) (k0 : ¬ dgOK c M → Φ 0 M) : jT_takeDigit (c - 48) M Φ := by
  obtain ⟨_, f0, d0, v0, _, _⟩ := hI
  have J44 : ∀ s t : Int, (s = 0 ↔ ¬ (0 < M 73 8 ∧ M 73 7 = 0)) → (t = 0 ↔ ¬ (M 73 6 = 2 ∧ M 73 8 = 0 ∧ c = 48)) → jT_takeDigit_J44 (c - 48) Φ s t M := by
    intro s t hs ht
    unfold jT_takeDigit_J44 jT_greatest
    refine ⟨fun e => k0 (fun z => e (hs.mpr z.2.1)), fun e => ⟨fun e2 => k0 (fun z => e2 (ht.mpr z.2.2.1)), fun e2 => ⟨by omega, by omega, ?_⟩⟩⟩
    have G : ∀ g, grF (M 73 6) = g → (((M 73 7) * 10 + (c - 48)) ≤ g → i32 ((M 73 7) * 10) ∧ i32 (((M 73 7) * 10) + (c - 48)) ∧ ∀ M7 : zM, M7 = zup M 73 7 (((M 73 7) * 10) + (c - 48)) → i32 ((M7 73 8) + 1) ∧ ∀ M9 : zM, M9 = zup M7 73 8 ((M7 73 8) + 1) → Φ 1 M9) ∧ (¬ ((((M 73 7) * 10) + (c - 48)) ≤ g) → Φ 0 M) := by
      rintro g eg
      refine ⟨fun q2 => ⟨by omega, by omega, ?_⟩, fun q2 => k0 (fun z => q2 (by have := z.2.2.2; omega))⟩
      rintro _ rfl
      rw [zup_ne (by omega)]
      refine ⟨by omega, ?_⟩
      rintro _ rfl
      exact k1 ⟨hc, hs.mp e, ht.mp e2, by omega⟩
    refine ⟨fun e3 => G 199 (by unfold grF; rw [if_pos e3]), fun e3 => ⟨fun e4 => G 30 (by unfold grF; rw [if_neg e3, if_pos e4]), fun e4 => G 89 (by unfold grF; rw [if_neg e3, if_neg e4])⟩⟩
  have J19 : ∀ s : Int, (s = 0 ↔ ¬ (0 < M 73 8 ∧ M 73 7 = 0)) → jT_takeDigit_J19 (c - 48) Φ s M := by
    intro s hs
    unfold jT_takeDigit_J19 jT_takeDigit_J43
    exact ⟨fun e => J44 s 0 hs (by omega), fun e => ⟨fun e2 => J44 s 0 hs (by omega), fun e2 => ⟨fun e3 => J44 s 0 hs (by omega), fun e3 => J44 s 1 hs (by omega)⟩⟩⟩
  unfold jT_takeDigit jT_takeDigit_J18
  exact ⟨fun e => J19 0 (by omega), fun e => ⟨fun e2 => J19 0 (by omega), fun e2 => J19 1 (by omega)⟩⟩
theorem take_ok {q c : Int} (hI : TI q M) (hq : q ≤ 60) (hc : 0 ≤ c ∧ c < 65536) {Φ : Int → zM → Prop} (k1 : ∀ M', TSt c M M' → Φ 1 M') (k0 : (∀ M', ¬ TSt c M M') → Φ 0 M) : jT_take c M Φ := by
  have n0 : 0 ≤ M 73 2 ∧ M 73 2 ≤ 100 := by
    obtain ⟨⟨a0, a1⟩, _⟩ := hI
    split at a1 <;> split at a1 <;> omega
  have f0 := hI.2.1
  have J21 : ¬ (48 ≤ c ∧ c ≤ 57) → jT_take_J21 c Φ M := by
    intro nd
    unfold jT_take_J21
    refine ⟨fun e => k0 (fun M' z => by unfold TSt dgOK at z; omega), fun e => ?_⟩
    have no : (¬ (c = 64 ∧ M 73 6 = 0 ∧ M 73 7 < 12) ∧ ¬ (c = 62 ∧ M 73 6 = 0) ∧ ¬ (c = 43 ∧ M 73 6 = 1) ∧ ¬ (c = 59 ∧ (M 73 6 = 2 ∨ M 73 6 = 3))) → ((0 : Int) = 0 → Φ 0 M) ∧ (¬ ((0 : Int) = 0) → Φ 1 M) := fun y => ⟨fun _ => k0 (fun M' z => by unfold TSt dgOK at z; omega), fun z => absurd rfl z⟩
    have yes : ∀ M', TSt c M M' → ((1 : Int) = 0 → Φ 0 M') ∧ (¬ ((1 : Int) = 0) → Φ 1 M') := fun M' z => ⟨fun y => absurd y (by decide), fun _ => k1 M' z⟩
    unfold jT_takeMark
    refine ⟨fun e1 => ⟨fun e2 => no (by omega), fun e2 => turnTo_ok n0.1 ⟨fun y => absurd y (by decide), fun _ => yes _ (Or.inr ⟨by omega, Or.inr (Or.inr (Or.inl ⟨e1, e2, rfl⟩))⟩)⟩⟩, fun e1 => ⟨fun e2 => ?_, fun e2 => ⟨fun e3 => ⟨fun e4 => no (by omega), fun e4 => turnTo_ok n0.1 ⟨fun y => absurd y (by decide), fun _ => yes _ (Or.inr ⟨by omega, Or.inr (Or.inl ⟨e3, e4, rfl⟩)⟩)⟩⟩, fun e3 => ⟨fun e4 => ⟨fun e5 => no (by omega), fun e5 => ⟨fun e6 => no (by omega), fun e6 => turnTo_ok n0.1 ⟨fun y => absurd y (by decide), fun _ => yes _ (Or.inr ⟨by omega, Or.inl ⟨e4, e5, by omega, rfl⟩⟩)⟩⟩⟩, fun e4 => no (by omega)⟩⟩⟩⟩
    have fin : (M 73 6 = 2 ∨ M 73 6 = 3) → jT_takeMark_J133 c (fun r1 M2 => (r1 = 0 → Φ 0 M2) ∧ (¬ (r1 = 0) → Φ 1 M2)) M := by
      intro hf
      unfold jT_takeMark_J133
      exact endPart_ok n0 ⟨fun y => absurd y (by decide), fun _ => yes _ (Or.inr ⟨by omega, Or.inr (Or.inr (Or.inr ⟨e2, hf, rfl⟩))⟩)⟩
    exact ⟨fun e3 => fin (Or.inl e3), fun e3 => ⟨fun e4 => no (by omega), fun e4 => fin (Or.inr e4)⟩⟩
  unfold jT_take
  refine ⟨fun e => J21 (by omega), fun e => ⟨fun e2 => J21 (by omega), fun e2 => ⟨by omega, takeDigit_ok hI hq (by omega) (fun d => ⟨Or.inr rfl, k1 _ (Or.inl ⟨d, rfl⟩)⟩) (fun d => ⟨Or.inl rfl, k0 (fun M' z => ?_)⟩)⟩⟩⟩
  unfold TSt at z
  rcases z with z | z
  · exact d z.1
  · omega
theorem readParts_ok (hL : 0 ≤ L ∧ L ≤ 60) (hT : ∀ i, 0 ≤ i → i < L → 0 ≤ T i ∧ T i < 65536) (h1 : M 73 1 = L) (h2 : ∀ i, 0 ≤ i → i < L → M 74 i = T i) {Φ : Int → zM → Prop} (kf : ∀ q, Flt T (iniM M) L q → ∀ M', smT M M' → Φ q M') (kg : ∀ M1, Rn T (iniM M) L.toNat M1 → goodW M1 → Φ (-5) (endM M1)) : jT_readParts M Φ := by
  unfold jT_readParts
  rintro _ rfl
  refine begin_ok ?_
  refine zwh_run (fun v : Int × zM => 0 ≤ v.1 ∧ v.1 ≤ L ∧ Rn T (iniM M) v.1.toNat v.2) (fun v => (L - v.1).toNat) ?_ (0, iniM M) ⟨Int.le_refl 0, hL.1, rfl⟩
  rintro K ⟨x, M1⟩ ⟨x0, x1, hR⟩ hK
  have x0 : 0 ≤ x := x0
  have x1 : x ≤ L := x1
  have hR : Rn T (iniM M) x.toNat M1 := hR
  have hI := Rn.TI hR
  rw [show ((x.toNat : Nat) : Int) = x by omega] at hI
  have hs := Rn.sm hR
  have e1 : M1 73 1 = L := hs.2.trans h1
  have e74 : M1 74 = M 74 := hs.1 74 (by omega) (by omega) (by omega) (by omega)
  have n0 : 0 ≤ M1 73 2 ∧ M1 73 2 ≤ 100 := by
    obtain ⟨⟨a0, a1⟩, _⟩ := hI
    split at a1 <;> split at a1 <;> omega
  have f0 := hI.2.1
  have d0 := hI.2.2.1
  show jT_readParts_L12 K Φ x M1
  unfold jT_readParts_L12
  rw [e1, e74]
  refine ⟨fun q => ?_, fun q => ⟨x0, by omega, ?_⟩⟩
  · have ex : x = L := by omega
    subst ex
    have bad : ¬ goodW M1 → Φ x M1 := fun z => kf x ⟨hL.1, Int.le_refl _, M1, hR, Or.inr ⟨rfl, z⟩⟩ M1 hs
    refine ⟨fun e => bad (fun z => by unfold goodW at z; omega), fun e => ⟨fun e2 => bad (fun z => by unfold goodW at z; omega), fun e2 => ⟨fun e3 => endPart_ok n0 (kg M1 hR ⟨by omega, by omega⟩), fun e3 => bad (fun z => by unfold goodW at z; omega)⟩⟩⟩
  · rw [h2 x x0 (by omega)]
    refine take_ok hI (by omega) (hT x x0 (by omega)) (fun M' hst => ⟨fun _ => ⟨by omega, ?_⟩, fun z => absurd z (by decide)⟩) (fun hno => ⟨fun z => absurd rfl z, fun _ => kf x ⟨x0, x1, M1, hR, Or.inl ⟨by omega, hno⟩⟩ M1 hs⟩)
    rintro _ rfl
    refine hK (x + 1, M') ⟨by show 0 ≤ x + 1; omega, by show x + 1 ≤ L; omega, ?_⟩ (by show (L - (x + 1)).toNat < (L - x).toNat; omega)
    show Rn T (iniM M) (x + 1).toNat M'
    rw [show (x + 1).toNat = x.toNat + 1 by omega]
    exact ⟨M1, hR, by rw [show ((x.toNat : Nat) : Int) = x by omega]; exact hst⟩
end AC
