/-! who pushes whom, slipping; the reference's side -/
theorem nn_le {n : Int} (h0 : 0 ≤ n) (h1 : n ≤ 30) : 0 ≤ n * n ∧ n * n ≤ 900 := ⟨Int.mul_nonneg h0 h0, by have := Int.mul_le_mul h1 h1 h0 (by omega); omega⟩
theorem pq_ok {n p : Int} (n0 : 0 ≤ n) (p0 : 0 ≤ p) (p1 : p < n * n) : 0 < n ∧ 0 ≤ p / n ∧ p / n < n ∧ 0 ≤ p % n ∧ p % n < n ∧ n * (p / n) + p % n = p := by
  have np : 0 < n := by
    rcases Int.lt_or_eq_of_le n0 with h | h
    · exact h
    · subst h; omega
  refine ⟨np, Int.ediv_nonneg p0 n0, Int.ediv_lt_of_lt_mul np p1, Int.emod_nonneg _ (by omega), Int.emod_lt_of_pos _ np, Int.mul_ediv_add_emod p n⟩
theorem plt_ok {n i j : Int} (i0 : 0 ≤ i) (i1 : i < n) (j0 : 0 ≤ j) (j1 : j < n) : 0 ≤ n * i + j ∧ n * i + j < n * n := by
  have h1 : 0 ≤ n * i := Int.mul_nonneg (by omega) i0
  have h2 : n * (i + 1) ≤ n * n := Int.mul_le_mul_of_nonneg_left (by omega) (by omega)
  rw [Int.mul_add, Int.mul_one] at h2
  omega
theorem pinj_ok {n p i j : Int} (j0 : 0 ≤ j) (j1 : j < n) (e : n * i + j = p) : p / n = i ∧ p % n = j := by
  subst e
  rw [Int.add_comm, Int.add_mul_ediv_left _ _ (by omega), Int.ediv_eq_zero_of_lt j0 j1, Int.add_mul_emod_self_left, Int.emod_eq_of_lt j0 j1]
  exact ⟨by omega, rfl⟩
def RefP (A : zA) (M : zM) : Prop := ∀ i j, 0 ≤ i → i < A 0 0 → 0 ≤ j → j < A 0 0 → (¬ M 7 (30 * i + j) = 0 ↔ pushP A i j)
section RM
variable {A : zA} {M : zM} {B : Int}
theorem of_raw {Φ : Int → Prop} {i f : Int} (i0 : 0 ≤ i) (i1 : i < 30) (f0 : 0 ≤ f) (f1 : f ≤ 3) (h : Φ (M 1 (1 + 4 * i + f))) : jM_of i f M Φ := by
  unfold jM_of
  exact ⟨by omega, by omega, by omega, by omega, by omega, h⟩
theorem end_raw {Φ : Int → Prop} {i : Int} (i0 : 0 ≤ i) (i1 : i < 30) (hb : i32 (M 1 (1 + 4 * i + 2) + M 1 (1 + 4 * i + 3))) (h : Φ (M 1 (1 + 4 * i + 2) + M 1 (1 + 4 * i + 3))) : jM_end i M Φ := by
  unfold jM_end
  exact of_raw i0 i1 (by omega) (by omega) (of_raw i0 i1 (by omega) (by omega) ⟨hb, h⟩)
def smL (M M' : zM) : Prop := ∀ q, q ≠ 7 → M' q = M q
theorem layPushes_ok (hr : RV A (M 1)) (hv : Val B A) {Φ : zM → Prop} (h : ∀ M', smL M M' → RefP A M' → Φ M') : jM_layPushes M Φ := by
  have hn := hv.n
  have ha := hv.a
  have hnn := nn_le hn.1 hn.2
  unfold jM_layPushes
  rw [hr.n]
  rintro _ rfl
  refine zwh_run (fun s => 0 ≤ s.1 ∧ s.1 ≤ A 0 0 * A 0 0 ∧ smL M s.2 ∧ ∀ i j, 0 ≤ i → i < A 0 0 → 0 ≤ j → j < A 0 0 → A 0 0 * i + j < s.1 → (¬ s.2 7 (30 * i + j) = 0 ↔ (A 3 i = A 3 j ∧ A 4 i < A 4 j))) (fun s => (A 0 0 * A 0 0 - s.1).toNat) ?_ (0, M) ⟨Int.le_refl 0, hnn.1, fun _ _ => rfl, fun i j i0 i1 j0 j1 hp => by have := (plt_ok i0 i1 j0 j1).1; have hp : A 0 0 * i + j < 0 := hp; omega⟩
  rintro K ⟨x, M1⟩ ⟨x0, x1, hs, hS⟩ hK
  have x0 : 0 ≤ x := x0
  have x1 : x ≤ A 0 0 * A 0 0 := x1
  have hs : smL M M1 := hs
  have hS : ∀ i j, 0 ≤ i → i < A 0 0 → 0 ≤ j → j < A 0 0 → A 0 0 * i + j < x → (¬ M1 7 (30 * i + j) = 0 ↔ (A 3 i = A 3 j ∧ A 4 i < A 4 j)) := hS
  have hr1 : RV A (M1 1) := by rw [hs 1 (by decide)]; exact hr
  show jM_layPushes_L9 K Φ (A 0 0) x M1
  unfold jM_layPushes_L9
  refine ⟨by omega, fun q => ?_, fun q => ?_⟩
  · have ex : x = A 0 0 * A 0 0 := by omega
    refine zwh_run (fun s => 0 ≤ s.1 ∧ s.1 ≤ A 6 0 ∧ smL M s.2 ∧ ∀ i j, 0 ≤ i → i < A 0 0 → 0 ≤ j → j < A 0 0 → (¬ s.2 7 (30 * i + j) = 0 ↔ (A 3 i = A 3 j ∧ A 4 i < A 4 j) ∨ ∃ k, 0 ≤ k ∧ k < s.1 ∧ A 9 k = i ∧ A 10 k = j ∧ lateA A k = 0)) (fun s => (A 6 0 - s.1).toNat) ?_ (0, M1) ⟨Int.le_refl 0, ha.1, hs, fun i j i0 i1 j0 j1 => (hS i j i0 i1 j0 j1 (by have := (plt_ok i0 i1 j0 j1).2; omega)).trans ⟨Or.inl, fun z => ?_⟩⟩
    · rintro K2 ⟨y, M2⟩ ⟨y0, y1, hs2, hT⟩ hK2
      have y0 : 0 ≤ y := y0
      have y1 : y ≤ A 6 0 := y1
      have hs2 : smL M M2 := hs2
      have hT : ∀ i j, 0 ≤ i → i < A 0 0 → 0 ≤ j → j < A 0 0 → (¬ M2 7 (30 * i + j) = 0 ↔ (A 3 i = A 3 j ∧ A 4 i < A 4 j) ∨ ∃ k, 0 ≤ k ∧ k < y ∧ A 9 k = i ∧ A 10 k = j ∧ lateA A k = 0) := hT
      have hr2 : RV A (M2 1) := by rw [hs2 1 (by decide)]; exact hr
      show jM_layPushes_L82 K2 Φ y M2
      unfold jM_layPushes_L82
      rw [hr2.a]
      refine ⟨fun q2 => ?_, fun q2 => ?_⟩
      · have ey : y = A 6 0 := by omega
        subst ey
        exact h M2 hs2 hT
      have f1 := hv.from y y0 (by omega)
      have t1 := hv.to y y0 (by omega)
      have fin : ∀ s2, (s2 = 0 ∨ s2 = 1) → (¬ s2 = 0 ↔ (¬ M2 7 (30 * A 9 y + A 10 y) = 0 ∨ lateA A y = 0)) → jM_layPushes_J135 K2 Φ y (30 * A 9 y + A 10 y) s2 M2 := by
        intro s2 hs3 hs4
        unfold jM_layPushes_J135
        refine ⟨by omega, by omega, hs3, ?_⟩
        rintro _ rfl
        refine ⟨by omega, ?_⟩
        rintro _ rfl
        refine hK2 (y + 1, zup M2 7 (30 * A 9 y + A 10 y) s2) ⟨by show 0 ≤ y + 1; omega, by show y + 1 ≤ A 6 0; omega, fun q hq => (zup_other hq).trans (hs2 q hq), fun i j i0 i1 j0 j1 => ?_⟩ (by show (A 6 0 - (y + 1)).toNat < (A 6 0 - y).toNat; omega)
        show ¬ zup M2 7 (30 * A 9 y + A 10 y) s2 7 (30 * i + j) = 0 ↔ (A 3 i = A 3 j ∧ A 4 i < A 4 j) ∨ ∃ k, 0 ≤ k ∧ k < y + 1 ∧ A 9 k = i ∧ A 10 k = j ∧ lateA A k = 0
        by_cases e : i = A 9 y ∧ j = A 10 y
        · obtain ⟨e1, e2⟩ := e
          rw [e1, e2, zup_at, hs4, hT _ _ f1.1 f1.2 t1.1 t1.2]
          constructor
          · rintro ((z | ⟨k, k0, k1, z⟩) | z)
            · exact Or.inl z
            · exact Or.inr ⟨k, k0, by omega, z⟩
            · exact Or.inr ⟨y, y0, by omega, rfl, rfl, z⟩
          · rintro (z | ⟨k, k0, k1, z⟩)
            · exact Or.inl (Or.inl z)
            · by_cases e : k = y
              · subst e; exact Or.inr z.2.2
              · exact Or.inl (Or.inr ⟨k, k0, by omega, z⟩)
        · rw [zup_ne (by omega), hT i j i0 i1 j0 j1]
          constructor
          · rintro (z | ⟨k, k0, k1, z⟩)
            · exact Or.inl z
            · exact Or.inr ⟨k, k0, by omega, z⟩
          · rintro (z | ⟨k, k0, k1, z⟩)
            · exact Or.inl z
            · by_cases e3 : k = y
              · subst e3; exact absurd ⟨z.1.symm, z.2.1.symm⟩ e
              · exact Or.inr ⟨k, k0, by omega, z⟩
      refine from_ok hr2 hv y0 (by omega) ⟨by omega, to_ok hr2 hv y0 (by omega) ⟨by omega, ?_⟩⟩
      rintro _ rfl
      refine ⟨by omega, by omega, fun q3 => ?_, fun q3 => lateByM_ok hr2 hv y0 (by omega) ⟨fun q4 => ?_, fun q4 => ?_⟩⟩
      · exact fin 1 (Or.inr rfl) ⟨fun _ => Or.inl q3, fun _ z => absurd z (by decide)⟩
      · exact fin 0 (Or.inl rfl) ⟨fun z => absurd rfl z, fun z => by rcases z with z | z; exact absurd q3 z; exact absurd z q4⟩
      · exact fin 1 (Or.inr rfl) ⟨fun _ => Or.inr q4, fun _ z => absurd z (by decide)⟩
    · rcases z with z | ⟨k, k0, k1, _⟩
      · exact z
      · have k1 : k < 0 := k1
        omega
  · obtain ⟨np, v0, v1, w0, w1, vw⟩ := pq_ok hn.1 x0 (show x < A 0 0 * A 0 0 by omega)
    refine ⟨x0, np, ?_⟩
    rintro _ rfl
    refine ⟨x0, np, ?_⟩
    rintro _ rfl
    have fin : ∀ s2, (s2 = 0 ∨ s2 = 1) → (¬ s2 = 0 ↔ (A 3 (x / A 0 0) = A 3 (x % A 0 0) ∧ A 4 (x / A 0 0) < A 4 (x % A 0 0))) → jM_layPushes_J73 K Φ (A 0 0) x (30 * (x / A 0 0) + x % A 0 0) s2 M1 := by
      intro s2 hs3 hs4
      unfold jM_layPushes_J73
      refine ⟨by omega, by omega, hs3, ?_⟩
      rintro _ rfl
      refine ⟨by omega, ?_⟩
      rintro _ rfl
      refine hK (x + 1, zup M1 7 (30 * (x / A 0 0) + x % A 0 0) s2) ⟨by show 0 ≤ x + 1; omega, by show x + 1 ≤ A 0 0 * A 0 0; omega, fun q hq => (zup_other hq).trans (hs q hq), fun i j i0 i1 j0 j1 hp => ?_⟩ (by show (A 0 0 * A 0 0 - (x + 1)).toNat < (A 0 0 * A 0 0 - x).toNat; omega)
      have hp : A 0 0 * i + j < x + 1 := hp
      show ¬ zup M1 7 (30 * (x / A 0 0) + x % A 0 0) s2 7 (30 * i + j) = 0 ↔ _
      by_cases e : A 0 0 * i + j = x
      · obtain ⟨e1, e2⟩ := pinj_ok j0 j1 e
        rw [e1, e2] at hs4 ⊢
        rw [zup_at]
        exact hs4
      · rw [zup_ne (fun z => e (by
          have e1 : i = x / A 0 0 := by omega
          have e2 : j = x % A 0 0 := by omega
          rw [e1, e2]; exact vw))]
        exact hS i j i0 i1 j0 j1 (by omega)
    refine ⟨by omega, by omega, of1_ok hr1 hv v0 v1 (of1_ok hr1 hv w0 w1 ⟨fun q1 => ?_, fun q1 => of2_ok hr1 hv w0 w1 (of2_ok hr1 hv v0 v1 ⟨fun q2 => ?_, fun q2 => ?_⟩)⟩)⟩
    · exact fin 0 (Or.inl rfl) ⟨fun z => absurd rfl z, fun z => absurd z.1 q1⟩
    · exact fin 0 (Or.inl rfl) ⟨fun z => absurd rfl z, fun z => by omega⟩
    · exact fin 1 (Or.inr rfl) ⟨fun _ => ⟨q1, by omega⟩, fun _ z => absurd z (by decide)⟩
theorem pulls_ok (hr : RV A (M 1)) (hv : Val B A) {bar : Int} {Φ : Int → zM → Prop} (hf : (∀ i, 0 ≤ i → i < A 0 0 → A 2 i ≠ bar) → Φ (-1) M) (ht : ∀ i, 0 ≤ i → i < A 0 0 → A 2 i = bar → ∀ M', smL M M' → Φ (if A 4 i - earA A i = 0 then -5 else A 4 i - earA A i) (zup M' 1 (1 + 4 * i + 2) (earA A i))) : jM_pulls bar M Φ := by
  have hn := hv.n
  unfold jM_pulls
  refine find_ok hr hv (fun i i0 i1 e => ⟨fun _ => layPushes_ok hr hv (fun M1 hs hp => ?_), fun z => by omega⟩) (fun h => ⟨fun z => absurd rfl z, fun _ => hf h⟩)
  have hr1 : RV A (M1 1) := by rw [hs 1 (by decide)]; exact hr
  have er := ear_rng hv i0 i1
  have di := hv.day i i0 i1
  refine zfor2 (fun x => mxI (earF A i) x) (n := A 0 0) hn.1 rfl (fun K => ?_) (fun K x x0 x1 hK => ?_)
  · show jM_pulls_L23 bar K Φ i M1 (earA A i) (A 0 0)
    unfold jM_pulls_L23
    rw [hr1.n]
    refine ⟨fun _ => of2_ok hr1 hv i0 i1 ⟨by omega, ?_⟩, fun q => absurd (Int.le_refl _) q⟩
    rintro _ rfl
    refine ⟨by omega, by omega, by omega, by omega, by omega, ?_⟩
    rintro _ rfl
    have := ht i i0 i1 e M1 hs
    exact ⟨fun q => by rw [if_neg q] at this; exact this, fun q => by rw [if_pos q] at this; exact this⟩
  · show jM_pulls_L23 bar K Φ i M1 (mxI (earF A i) x) x
    unfold jM_pulls_L23
    rw [hr1.n]
    rw [mxI_s _ x0] at hK
    have nn := mxI_nn (earF A i) x
    refine ⟨fun q => by omega, fun q => ⟨by omega, by omega, by omega, by omega, fun p => ⟨by omega, ?_⟩, fun p => end_ok hr1 hv x0 x1 (most_ok ⟨by omega, ?_⟩)⟩⟩
    · rintro _ rfl
      rw [earF_f (fun z => ((hp x i x0 x1 i0 i1).mpr z) p), show max (mxI (earF A i) x) 0 = mxI (earF A i) x by omega] at hK
      exact hK
    · rintro _ rfl
      rw [earF_t ((hp x i x0 x1 i0 i1).mp p)] at hK
      exact hK
end RM
