/-! the best swap: the class -/
section AC
variable {A A' S : zA} {H : Int → zA} {h fl L B : Int} {T : Int → Int} {M M2 Mm Mx Mx' : zM} {b : Nat}
theorem swI_swI (p q l : Int) : swI p q (swI p q l) = l := by
  unfold swI
  by_cases e1 : l = p
  · by_cases e2 : q = p
    · simp only [e1, e2, if_true]
    · simp only [e1, e2, if_true, if_false]
  · by_cases e2 : l = q
    · simp only [e1, e2, if_true, if_false]
      by_cases e3 : q = p
      · simp only [e3, if_true]
      · simp only [e3, if_true, if_false]
    · simp only [e1, e2, if_false]
theorem swp_swp (A : zA) (p q : Int) : swpA (swpA A p q) p q = A := by
  funext k j
  rcases k with _ | _ | _ | _ | _ | k
  · rfl
  · rfl
  · rfl
  · exact swI_swI p q (A 3 j)
  · rfl
  · rfl
noncomputable def swB (A : zA) (p q : Int) : zA := by classical exact if lanedBy A p ∨ lanedBy A q then swpA A p q else A
theorem swB_y {p q : Int} (h : lanedBy A p ∨ lanedBy A q) : swB A p q = swpA A p q := by unfold swB; rw [if_pos h]
theorem swB_n {p q : Int} (h : ¬ (lanedBy A p ∨ lanedBy A q)) : swB A p q = A := by unfold swB; rw [if_neg h]
theorem swB_val (hv : Val B A) {p q : Int} (p0 : 0 ≤ p ∧ p < 12) (q0 : 0 ≤ q ∧ q < 12) : Val B (swB A p q) := by
  by_cases e : lanedBy A p ∨ lanedBy A q
  · rw [swB_y e]; exact swpA_val hv p0 q0
  · rw [swB_n e]; exact hv
def bet (f p u v : Int) : Prop := u < f ∨ (u = f ∧ v < p)
noncomputable def uS (A : zA) (k : Int) : Int := undrA (swB A (k / 12) (k % 12))
noncomputable def pS (A : zA) (k : Int) : Int := ptsA (swB A (k / 12) (k % 12))
noncomputable def bsT (A : zA) (k : Int) (s : Int × Int × Int) : Int × Int × Int := by classical exact if k / 12 < k % 12 ∧ bet s.2.1 s.2.2 (uS A k) (pS A k) then (k, uS A k, pS A k) else s
theorem bsT_y {k : Int} {s : Int × Int × Int} (h : k / 12 < k % 12 ∧ bet s.2.1 s.2.2 (uS A k) (pS A k)) : bsT A k s = (k, uS A k, pS A k) := by unfold bsT; rw [if_pos h]
theorem bsT_n {k : Int} {s : Int × Int × Int} (h : ¬ (k / 12 < k % 12 ∧ bet s.2.1 s.2.2 (uS A k) (pS A k))) : bsT A k s = s := by unfold bsT; rw [if_neg h]
noncomputable def bsS (A : zA) : Nat → Int × Int × Int
  | 0 => (-5, undrA A, ptsA A)
  | k + 1 => bsT A k (bsS A k)
noncomputable def bsI (A : zA) (x : Int) : Int × Int × Int := bsS A x.toNat
theorem bsI_s {x : Int} (x0 : 0 ≤ x) : bsI A (x + 1) = bsT A x (bsI A x) := by
  obtain ⟨k, rfl⟩ := Int.eq_ofNat_of_zero_le x0
  rfl
theorem bs_rng : ∀ k : Nat, (bsS A k).1 = -5 ∨ (0 ≤ (bsS A k).1 ∧ (bsS A k).1 < k)
  | 0 => Or.inl rfl
  | k + 1 => by
    have ih := bs_rng k
    show (bsT A k (bsS A k)).1 = -5 ∨ (0 ≤ (bsT A k (bsS A k)).1 ∧ (bsT A k (bsS A k)).1 < ((k + 1 : Nat) : Int))
    by_cases h : (k : Int) / 12 < (k : Int) % 12 ∧ bet (bsS A k).2.1 (bsS A k).2.2 (uS A k) (pS A k)
    · rw [bsT_y h]
      exact Or.inr ⟨by show (0 : Int) ≤ (k : Int); omega, by show (k : Int) < ((k + 1 : Nat) : Int); omega⟩
    · rw [bsT_n h]
      omega
theorem bs_le : ∀ k : Nat, ¬ bet (bsS A k).2.1 (bsS A k).2.2 (undrA A) (ptsA A)
  | 0 => by show ¬ bet (undrA A) (ptsA A) (undrA A) (ptsA A); unfold bet; omega
  | k + 1 => by
    have ih := bs_le k
    show ¬ bet (bsT A k (bsS A k)).2.1 (bsT A k (bsS A k)).2.2 (undrA A) (ptsA A)
    by_cases h : (k : Int) / 12 < (k : Int) % 12 ∧ bet (bsS A k).2.1 (bsS A k).2.2 (uS A k) (pS A k)
    · rw [bsT_y h]
      have h2 := h.2
      show ¬ bet (uS A k) (pS A k) (undrA A) (ptsA A)
      unfold bet at *
      omega
    · rw [bsT_n h]
      exact ih
theorem bs_skip {p : Int} (p0 : 0 ≤ p) : ∀ j : Nat, (j : Int) ≤ p + 1 → p < 12 → (j : Int) ≤ 12 → bsI A (12 * p + j) = bsI A (12 * p)
  | 0, _, _, _ => by rw [show 12 * p + ((0 : Nat) : Int) = 12 * p by omega]
  | j + 1, h, h2, h3 => by
    rw [show 12 * p + ((j + 1 : Nat) : Int) = (12 * p + (j : Int)) + 1 by omega, bsI_s (by omega), bsT_n (fun z => by have := z.1; omega)]
    exact bs_skip p0 j (by omega) h2 (by omega)
def BetP (f p u v r : Int) (M M' : zM) : Prop := (bet f p u v ∧ r = 1 ∧ M' 87 0 = M 87 0 ∧ M' 87 1 = M 87 1 ∧ M' 87 2 = u ∧ M' 87 3 = v) ∨ (¬ bet f p u v ∧ r = 0 ∧ M' 87 = M 87)
def smW (M M' : zM) : Prop := ∀ a, a ≠ 82 → a ≠ 83 → a ≠ 84 → a ≠ 87 → M' a = M a
theorem isBetter_ok (hc : CV A M 10) (hv : Val B A) {f p : Int} (hf : M 87 2 = f) (hq : M 87 3 = p) {Φ : Int → zM → Prop} (k : ∀ r M', smW M M' → BetP f p (undrA A) (ptsA A) r M M' → Φ r M') : jS_isBetter 10 M Φ := by
  unfold jS_isBetter
  refine draw_ok hc hv (Or.inr (Or.inl rfl)) (fun M1 hs1 hd1 => ?_)
  have e87 : M1 87 = M 87 := hs1 87 (by omega) (by omega) (by omega)
  have s1 : smW M M1 := fun a a1 a2 a3 _ => hs1 a a1 a2 a3
  have hc1 := hs1.cv (Or.inr (Or.inl rfl)) hc
  have yes : ∀ c, c = ptsA A → bet f p (undrA A) (ptsA A) → jS_isBetter_J45 10 Φ c M1 := by
    intro c ec hbt
    unfold jS_isBetter_J45
    rintro _ rfl _ rfl
    refine k 1 _ (fun a a1 a2 a3 a4 => (zup_other a4).trans ((zup_other a4).trans (s1 a a1 a2 a3 a4))) (Or.inl ⟨hbt, rfl, ?_, ?_, ?_, ?_⟩)
    · rw [zup_ne (by omega), zup_ne (by omega), e87]
    · rw [zup_ne (by omega), zup_ne (by omega), e87]
    · rw [zup_ne (by omega), zup_at, hd1.2.2]
    · rw [zup_at, ec]
  have no : ¬ bet f p (undrA A) (ptsA A) → Φ 0 M1 := fun hb => k 0 M1 s1 (Or.inr ⟨hb, rfl, e87⟩)
  rw [e87, hf, hq, hd1.2.2]
  refine ⟨fun q => pointsInAll_ok hc1 hv hd1 ⟨fun e => yes _ rfl (Or.inl (by omega)), fun e => ⟨fun q2 => yes _ rfl (Or.inr ⟨e, q2⟩), fun q2 => no (fun z => by unfold bet at z; omega)⟩⟩, fun q => no (fun z => by unfold bet at z; omega)⟩
def FI (A : zA) (x : Int) (M : zM) (c : Int) : Prop := ((c = 0 ∧ (bsI A x).1 = -5) ∨ (c = 1 ∧ 0 ≤ (bsI A x).1 ∧ M 87 0 = (bsI A x).1 / 12 ∧ M 87 1 = (bsI A x).1 % 12)) ∧ M 87 2 = (bsI A x).2.1 ∧ M 87 3 = (bsI A x).2.2
def smY (M M' : zM) : Prop := ∀ a, a ≠ 12 → a ≠ 82 → a ≠ 83 → a ≠ 84 → a ≠ 87 → M' a = M a
def TryP (x y c f p u v c' : Int) (M M' : zM) : Prop := (bet f p u v ∧ c' = 1 ∧ M' 87 0 = x ∧ M' 87 1 = y ∧ M' 87 2 = u ∧ M' 87 3 = v) ∨ (¬ bet f p u v ∧ c' = c ∧ M' 87 = M 87)
theorem swtry_ok (hc : CV A M 10) (hv : Val B A) {x y c : Int} (x0 : 0 ≤ x ∧ x < 12) (y0 : 0 ≤ y ∧ y < 12) {f p : Int} (hf : M 87 2 = f) (hq : M 87 3 = p) (hl : lanedBy A x ∨ lanedBy A y) {K K2 : (Int × Int × zM) → Prop} {Φ : Int → zM → Prop} (k : ∀ c' M', smY M M' → CV A M' 10 → TryP x y c f p (undrA (swB A x y)) (ptsA (swB A x y)) c' M M' → K2 (c', y + 1, M')) : jS_find_J68 10 K K2 Φ c x y M := by
  unfold jS_find_J68
  refine exchangeLanes_ok hc hv (fun M3 hs3 hc3 => ?_)
  have vs := swpA_val hv x0 y0
  refine isBetter_ok hc3 vs (f := f) (p := p) (by rw [hs3 87 (by omega)]; exact hf) (by rw [hs3 87 (by omega)]; exact hq) (fun r M5 hs5 hb => ?_)
  have hc5 : CV (swpA A x y) M5 10 := hc3.same (fun a a0 a1 => hs5 a (by omega) (by omega) (by omega) (by omega))
  have e87b : M3 87 = M 87 := hs3 87 (by omega)
  rw [← swB_y hl] at hb
  refine ⟨fun er => ?_, fun er => ?_⟩
  · unfold jS_find_J99
    refine exchangeLanes_ok hc5 vs (fun M6 hs6 hc6 => ⟨by omega, ?_⟩)
    rintro _ rfl
    rw [swp_swp] at hc6
    refine k c M6 (fun a a1 a2 a3 a4 a5 => ((hs6 a (by omega)).trans (hs5 a a2 a3 a4 a5)).trans (hs3 a (by omega))) hc6 ?_
    rcases hb with z | z
    · exact absurd (z.2.1.symm.trans er) (by decide)
    · exact Or.inr ⟨z.1, rfl, ((hs6 87 (by omega)).trans z.2.2).trans e87b⟩
  · rintro M7 e7 M8 e8
    have s8 : ∀ a, a ≠ 87 → M8 a = M5 a := fun a ha => by rw [e8, zup_other ha, e7, zup_other ha]
    have hc8 : CV (swpA A x y) M8 10 := hc5.same (fun a a0 a1 => s8 a (by omega))
    unfold jS_find_J99
    refine exchangeLanes_ok hc8 vs (fun M6 hs6 hc6 => ⟨by omega, ?_⟩)
    rintro _ rfl
    rw [swp_swp] at hc6
    refine k 1 M6 (fun a a1 a2 a3 a4 a5 => (((hs6 a (by omega)).trans (s8 a a5)).trans (hs5 a a2 a3 a4 a5)).trans (hs3 a (by omega))) hc6 ?_
    have e87 : M6 87 = M8 87 := hs6 87 (by omega)
    rcases hb with z | z
    · refine Or.inl ⟨z.1, rfl, ?_, ?_, ?_, ?_⟩
      · rw [e87, e8, zup_ne (by omega), e7, zup_at]
      · rw [e87, e8, zup_at]
      · rw [e87, e8, zup_ne (by omega), e7, zup_ne (by omega)]; exact z.2.2.2.2.1
      · rw [e87, e8, zup_ne (by omega), e7, zup_ne (by omega)]; exact z.2.2.2.2.2
    · exact absurd z.2.1 er
theorem swfind_ok (hc : CV A M 10) (hv : Val B A) {Φ : Int → zM → Prop} (k : ∀ r M', smY M M' → FI A 144 M' r → Φ r M') : jS_find 10 M Φ := by
  unfold jS_find
  refine draw_ok hc hv (Or.inr (Or.inl rfl)) (fun M1 hs1 hd1 => ?_)
  rintro M2 e2
  have hs2 : ∀ a, a ≠ 87 → M2 a = M1 a := fun a ha => by rw [e2, zup_other ha]
  have hc2 : CV A M2 10 := (hs1.cv (Or.inr (Or.inl rfl)) hc).same (fun a a0 a1 => hs2 a (by omega))
  have hd2 : DrawP A M2 := by
    unfold DrawP BarredP
    rw [hs2 82 (by omega), hs2 83 (by omega), hs2 84 (by omega)]
    exact hd1
  refine pointsInAll_ok hc2 hv hd2 ?_
  rintro M5 e5
  have s5 : smY M M5 := fun a a1 a2 a3 a4 a5 => by rw [e5, zup_other a5, hs2 a a5]; exact hs1 a a2 a3 a4
  have hc5 : CV A M5 10 := hc2.same (fun a a0 a1 => by rw [e5, zup_other (by omega)])
  have f5 : FI A (12 * 0) M5 0 := by
    refine ⟨Or.inl ⟨rfl, rfl⟩, ?_, ?_⟩
    · rw [e5, zup_ne (by omega), e2, zup_at, hd1.2.2]; rfl
    · rw [e5, zup_at]; rfl
  refine zwh_run (fun v : Int × Int × zM => 0 ≤ v.2.1 ∧ v.2.1 ≤ 12 ∧ smY M v.2.2 ∧ CV A v.2.2 10 ∧ FI A (12 * v.2.1) v.2.2 v.1) (fun v => (12 - v.2.1).toNat) ?_ (0, 0, M5) ⟨Int.le_refl 0, (show (0 : Int) ≤ 12 by decide), s5, hc5, f5⟩
  rintro K ⟨c, x, M6⟩ ⟨x0, x1, s6, hc6, f6⟩ hK
  have x0 : 0 ≤ x := x0
  have x1 : x ≤ 12 := x1
  have s6 : smY M M6 := s6
  have hc6 : CV A M6 10 := hc6
  have f6 : FI A (12 * x) M6 c := f6
  show jS_find_L27 10 K Φ c x M6
  unfold jS_find_L27
  refine ⟨fun q => ?_, fun q => ⟨by omega, ?_⟩⟩
  · have ex : x = 12 := by omega
    subst ex
    exact ⟨by rcases f6.1 with z | z; exact Or.inl z.1; exact Or.inr z.1, k c M6 s6 f6⟩
  · rintro _ rfl
    have f7 : FI A (12 * x + (x + 1)) M6 c := by
      have e := bs_skip (A := A) x0 (x + 1).toNat (by omega) (by omega) (by omega)
      rw [show (((x + 1).toNat : Nat) : Int) = x + 1 by omega] at e
      unfold FI
      rw [e]
      exact f6
    refine zwh_run (fun v : Int × Int × zM => x + 1 ≤ v.2.1 ∧ v.2.1 ≤ 12 ∧ smY M v.2.2 ∧ CV A v.2.2 10 ∧ FI A (12 * x + v.2.1) v.2.2 v.1) (fun v => (12 - v.2.1).toNat) ?_ (c, x + 1, M6) ⟨Int.le_refl _, by show x + 1 ≤ 12; omega, s6, hc6, f7⟩
    rintro K2 ⟨c2, y, M8⟩ ⟨y0, y1, s8, hc8, f8⟩ hK2
    have y0 : x + 1 ≤ y := y0
    have y1 : y ≤ 12 := y1
    have s8 : smY M M8 := s8
    have hc8 : CV A M8 10 := hc8
    have f8 : FI A (12 * x + y) M8 c2 := f8
    show jS_find_L40 10 K K2 Φ x c2 y M8
    unfold jS_find_L40
    refine ⟨fun q2 => ⟨by omega, ?_⟩, fun q2 => ?_⟩
    · rintro _ rfl
      refine hK (c2, x + 1, M8) ⟨by show 0 ≤ x + 1; omega, by show x + 1 ≤ 12; omega, s8, hc8, ?_⟩ (by show (12 - (x + 1)).toNat < (12 - x).toNat; omega)
      show FI A (12 * (x + 1)) M8 c2
      rw [show 12 * (x + 1) = 12 * x + y by omega]
      exact f8
    · have k1 : (12 * x + y) / 12 = x := by omega
      have k2 : (12 * x + y) % 12 = y := by omega
      have bs := bsI_s (A := A) (x := 12 * x + y) (by omega)
      have hu : uS A (12 * x + y) = undrA (swB A x y) := by unfold uS; rw [k1, k2]
      have hp : pS A (12 * x + y) = ptsA (swB A x y) := by unfold pS; rw [k1, k2]
      have fin : ∀ c' M11, smY M8 M11 → CV A M11 10 → TryP x y c2 (bsI A (12 * x + y)).2.1 (bsI A (12 * x + y)).2.2 (undrA (swB A x y)) (ptsA (swB A x y)) c' M8 M11 → K2 (c', y + 1, M11) := by
        intro c' M11 hs11 hc11 hb
        have s11 : smY M M11 := fun a a1 a2 a3 a4 a5 => (hs11 a a1 a2 a3 a4 a5).trans (s8 a a1 a2 a3 a4 a5)
        refine hK2 (c', y + 1, M11) ⟨by show x + 1 ≤ y + 1; omega, by show y + 1 ≤ 12; omega, s11, hc11, ?_⟩ (by show (12 - (y + 1)).toNat < (12 - y).toNat; omega)
        show FI A (12 * x + (y + 1)) M11 c'
        rw [show 12 * x + (y + 1) = 12 * x + y + 1 by omega]
        unfold FI
        rcases hb with z | z
        · rw [bs, bsT_y ⟨by omega, by rw [hu, hp]; exact z.1⟩, hu, hp]
          refine ⟨Or.inr ⟨z.2.1, by show 0 ≤ 12 * x + y; omega, ?_, ?_⟩, z.2.2.2.2.1, z.2.2.2.2.2⟩
          · show M11 87 0 = (12 * x + y) / 12
            rw [k1]; exact z.2.2.1
          · show M11 87 1 = (12 * x + y) % 12
            rw [k2]; exact z.2.2.2.1
        · rw [bs, bsT_n (fun w => z.1 (by have := w.2; rw [hu, hp] at this; exact this)), z.2.2, z.2.1]
          exact f8
      have go := fun hl => swtry_ok (K := K) (K2 := K2) (Φ := Φ) hc8 hv ⟨x0, by omega⟩ ⟨by omega, by omega⟩ f8.2.1 f8.2.2 hl fin
      refine hasBars_ok hc8 hv (fun h1 => ⟨fun _ => go (Or.inl h1), fun z => absurd z (by decide)⟩) (fun h1 => ⟨fun z => absurd rfl z, fun _ => hasBars_ok hc8 hv (fun h2 => ⟨fun _ => go (Or.inr h2), fun z => absurd z (by decide)⟩) (fun h2 => ⟨fun z => absurd rfl z, fun _ => ⟨by omega, ?_⟩⟩)⟩)
      rintro _ rfl
      refine fin c2 M8 (fun _ _ _ _ _ _ => rfl) hc8 (Or.inr ⟨?_, rfl, rfl⟩)
      rw [swB_n (fun z => by rcases z with z | z; exact h1 z; exact h2 z)]
      exact bs_le _
end AC

