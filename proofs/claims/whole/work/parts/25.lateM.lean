/-! the latest first days, the longest row; the reference's side -/
section RM
variable {A : zA} {M : zM} {B : Int}
theorem late_eq (hv : Val B A) {g : Int} {F D : Int → Int} (hD : LateP A g D) (h1 : ∀ j, 0 ≤ j → j < A 0 0 → D j ≤ F j ∧ F j + A 5 j ≤ g) (h2 : ∀ i j, 0 ≤ i → i < A 0 0 → 0 ≤ j → j < A 0 0 → pushP A i j → F i + A 5 i ≤ F j) : ∀ j, 0 ≤ j → j < A 0 0 → F j = D j := by
  have key : ∀ m : Nat, ∀ j, 0 ≤ j → j < A 0 0 → 200 - A 4 j < m → F j = D j := by
    intro m
    induction m with
    | zero => intro j j0 j1 hm; have := hv.day j j0 j1; omega
    | succ m ih =>
      intro j j0 j1 hm
      have f := h1 j j0 j1
      rcases (hD.1 j j0 j1).2.2 with e | ⟨i, i0, i1, hp, e⟩
      · omega
      · have lt := push_lt hv j0 j1 i0 i1 hp
        have := ih i i0 i1 (by omega)
        have := h2 j i j0 j1 i0 i1 hp
        omega
  intro j j0 j1
  have := hv.day j j0 j1
  exact key 201 j j0 j1 (by omega)
def LaM (A : zA) (M M' : zM) (D : Int → Int) : Prop := (∀ q, q ≠ 7 → q ≠ 8 → M' q = M q) ∧ RefP A M' ∧ ∀ j, 0 ≤ j → j < A 0 0 → D j ≤ M' 8 j ∧ M' 8 j + A 5 j ≤ gEnd A
def slqN (A : zA) (D : Int → Int) (M : zM) : Int := sumI (fun j => M 8 j - D j) (A 0 0)
theorem slqN_nn {D : Int → Int} {M M' : zM} (h : LaM A M M' D) : 0 ≤ slqN A D M' := sumI_nn (fun j j0 j1 => by have := h.2.2 j j0 j1; omega)
theorem layLatest_ok (hr : RV A (M 1)) (hv : Val B A) {D : Int → Int} (hD : LateP A (gEnd A) D) {Φ : zM → Prop} (h : ∀ M', (∀ q, q ≠ 7 → q ≠ 8 → M' q = M q) → (∀ j, 0 ≤ j → j < A 0 0 → M' 8 j = D j) → Φ M') : jM_layLatest M Φ := by
  have hn := hv.n
  have hg := gEnd_rng hv
  have hnn := nn_le hn.1 hn.2
  have bd : ∀ j, 0 ≤ j → j < A 0 0 → 0 ≤ D j ∧ 1 ≤ A 5 j ∧ A 5 j ≤ 30 := fun j j0 j1 => by have := hD.1 j j0 j1; have := hv.day j j0 j1; omega
  unfold jM_layLatest
  refine layPushes_ok hr hv (fun M0 hs0 hp0 => ?_)
  rw [show M0 1 0 = A 0 0 by rw [hs0 1 (by decide)]; exact hr.n]
  rintro _ rfl
  refine greatestEndM_ok (by rw [hs0 1 (by decide)]; exact hr) hv ?_
  refine zwh_run (fun s => 0 ≤ s.1 ∧ s.1 ≤ A 0 0 ∧ (∀ q, q ≠ 7 → q ≠ 8 → s.2 q = M q) ∧ RefP A s.2 ∧ ∀ j, 0 ≤ j → j < s.1 → s.2 8 j = gEnd A - A 5 j) (fun s => (A 0 0 - s.1).toNat) ?_ (0, M0) ⟨Int.le_refl 0, hn.1, fun q q1 q2 => hs0 q q1, hp0, fun j j0 j1 => by have j1 : j < 0 := j1; omega⟩
  rintro K ⟨x, M1⟩ ⟨x0, x1, hs, hp, h8⟩ hK
  have x0 : 0 ≤ x := x0
  have x1 : x ≤ A 0 0 := x1
  have hs : ∀ q, q ≠ 7 → q ≠ 8 → M1 q = M q := hs
  have hp : RefP A M1 := hp
  have h8 : ∀ j, 0 ≤ j → j < x → M1 8 j = gEnd A - A 5 j := h8
  have hr1 : RV A (M1 1) := by rw [hs 1 (by decide) (by decide)]; exact hr
  show jM_layLatest_L18 K Φ (A 0 0) (gEnd A) x M1
  unfold jM_layLatest_L18
  refine ⟨fun q => ?_, fun q => of3_ok hr1 hv x0 (by omega) ?_⟩
  · have ex : x = A 0 0 := by omega
    subst ex
    refine zwh_run (fun s => LaM A M s.2 D ∧ (s.1 = 0 ∨ s.1 = 1) ∧ (s.1 = 0 → ∀ i j, 0 ≤ i → i < A 0 0 → 0 ≤ j → j < A 0 0 → pushP A i j → s.2 8 i + A 5 i ≤ s.2 8 j)) (fun s => (2 * slqN A D s.2 + s.1).toNat) ?_ (1, M1) ⟨⟨hs, hp, fun j j0 j1 => by have := hD.1 j j0 j1; show D j ≤ M1 8 j ∧ M1 8 j + A 5 j ≤ gEnd A; rw [h8 j j0 j1]; omega⟩, Or.inr rfl, fun z => by have z : (1 : Int) = 0 := z; omega⟩
    rintro K ⟨f, M2⟩ ⟨hS, hf, hcl⟩ hK
    have hS : LaM A M M2 D := hS
    have hf : f = 0 ∨ f = 1 := hf
    have hcl : f = 0 → ∀ i j, 0 ≤ i → i < A 0 0 → 0 ≤ j → j < A 0 0 → pushP A i j → M2 8 i + A 5 i ≤ M2 8 j := hcl
    show jM_layLatest_L45 K Φ (A 0 0) f M2
    unfold jM_layLatest_L45
    refine ⟨fun q => h M2 hS.1 (late_eq hv (F := M2 8) hD hS.2.2 (hcl q)), fun q => ?_⟩
    have s0 := slqN_nn hS
    refine zwh_run (fun s => LaM A M s.2.2 D ∧ 0 ≤ s.2.1 ∧ s.2.1 ≤ A 0 0 * A 0 0 ∧ ((s.1 = 0 ∧ slqN A D s.2.2 = slqN A D M2 ∧ ∀ i j, 0 ≤ i → i < A 0 0 → 0 ≤ j → j < A 0 0 → A 0 0 * i + j < s.2.1 → pushP A i j → s.2.2 8 i + A 5 i ≤ s.2.2 8 j) ∨ (s.1 = 1 ∧ slqN A D s.2.2 < slqN A D M2))) (fun s => (A 0 0 * A 0 0 - s.2.1).toNat) ?_ (0, 0, M2) ⟨hS, Int.le_refl 0, hnn.1, Or.inl ⟨rfl, rfl, fun i j i0 i1 j0 j1 hp => by have := (plt_ok i0 i1 j0 j1).1; have hp : A 0 0 * i + j < 0 := hp; omega⟩⟩
    rintro K2 ⟨g, x, M3⟩ ⟨hS3, x0, x1, hg⟩ hK2
    have hS3 : LaM A M M3 D := hS3
    have x0 : 0 ≤ x := x0
    have x1 : x ≤ A 0 0 * A 0 0 := x1
    have hg : (g = 0 ∧ slqN A D M3 = slqN A D M2 ∧ ∀ i j, 0 ≤ i → i < A 0 0 → 0 ≤ j → j < A 0 0 → A 0 0 * i + j < x → pushP A i j → M3 8 i + A 5 i ≤ M3 8 j) ∨ (g = 1 ∧ slqN A D M3 < slqN A D M2) := hg
    have s3 := slqN_nn hS3
    show jM_layLatest_L54 K K2 Φ (A 0 0) g x M3
    unfold jM_layLatest_L54
    refine ⟨by omega, fun q2 => ?_, fun q2 => ?_⟩
    · refine hK (g, M3) ⟨hS3, by show g = 0 ∨ g = 1; rcases hg with z | z; exact Or.inl z.1; exact Or.inr z.1, fun z => ?_⟩ (by show (2 * slqN A D M3 + g).toNat < (2 * slqN A D M2 + f).toNat; rcases hg with z | z <;> omega)
      have z : g = 0 := z
      rcases hg with y | y
      · intro i j i0 i1 j0 j1 hij
        exact y.2.2 i j i0 i1 j0 j1 (by have := (plt_ok i0 i1 j0 j1).2; omega) hij
      · omega
    obtain ⟨np, v0, v1, w0, w1, vw⟩ := pq_ok hn.1 x0 (show x < A 0 0 * A 0 0 by omega)
    have fa := hS3.2.2 _ v0 v1
    have fb := hS3.2.2 _ w0 w1
    have va := bd _ v0 v1
    have vb := bd _ w0 w1
    have nx : (pushP A (x / A 0 0) (x % A 0 0) → M3 8 (x / A 0 0) + A 5 (x / A 0 0) ≤ M3 8 (x % A 0 0)) → (i32 (x + 1) ∧ ∀ v4_18 : Int, v4_18 = x + 1 → K2 (g, v4_18, M3)) := by
      intro hx
      refine ⟨by omega, ?_⟩
      rintro _ rfl
      refine hK2 (g, x + 1, M3) ⟨hS3, by show 0 ≤ x + 1; omega, by show x + 1 ≤ A 0 0 * A 0 0; omega, ?_⟩ (by show (A 0 0 * A 0 0 - (x + 1)).toNat < (A 0 0 * A 0 0 - x).toNat; omega)
      rcases hg with y | y
      · refine Or.inl ⟨y.1, y.2.1, fun i j i0 i1 j0 j1 hp hij => ?_⟩
        have hp : A 0 0 * i + j < x + 1 := hp
        by_cases e : A 0 0 * i + j = x
        · obtain ⟨e1, e2⟩ := pinj_ok j0 j1 e
          rw [e1, e2] at hx
          exact hx hij
        · exact y.2.2 i j i0 i1 j0 j1 (by omega) hij
      · exact Or.inr y
    have hr3 : RV A (M3 1) := by rw [hS3.1 1 (by decide) (by decide)]; exact hr
    refine ⟨x0, np, ?_⟩
    rintro _ rfl
    refine ⟨x0, np, by omega, by omega, of3_ok hr3 hv v0 v1 ⟨by omega, ?_⟩⟩
    rintro _ rfl
    refine ⟨by omega, x0, np, by omega, by omega, by omega, fun p => nx (fun z => absurd p ((hS3.2.1 _ _ v0 v1 w0 w1).mpr z)), fun p => ⟨by omega, by omega, fun q3 => nx (fun _ => by omega), fun q3 => ⟨by omega, by omega, ?_⟩⟩⟩
    rintro _ rfl
    refine ⟨by omega, ?_⟩
    rintro _ rfl
    have cl := hD.2 _ _ v0 v1 w0 w1 ((hS3.2.1 _ _ v0 v1 w0 w1).mp p)
    have hS4 : LaM A M (zup M3 8 (x / A 0 0) (M3 8 (x % A 0 0) - A 5 (x / A 0 0))) D := by
      refine ⟨fun q q1 q2 => (zup_other q2).trans (hS3.1 q q1 q2), fun i j i0 i1 j0 j1 => ?_, fun j j0 j1 => ?_⟩
      · rw [zup_other (by decide)]; exact hS3.2.1 i j i0 i1 j0 j1
      · by_cases e : j = x / A 0 0
        · rw [e, zup_at]; omega
        · rw [zup_ne e]; exact hS3.2.2 j j0 j1
    have lt : slqN A D (zup M3 8 (x / A 0 0) (M3 8 (x % A 0 0) - A 5 (x / A 0 0))) < slqN A D M3 := by
      refine sumI_lt (fun j j0 j1 => ?_) ⟨x / A 0 0, v0, v1, ?_⟩
      · show zup M3 8 (x / A 0 0) (M3 8 (x % A 0 0) - A 5 (x / A 0 0)) 8 j - D j ≤ M3 8 j - D j
        by_cases e : j = x / A 0 0
        · rw [e, zup_at]; omega
        · rw [zup_ne e]; exact Int.le_refl _
      · show zup M3 8 (x / A 0 0) (M3 8 (x % A 0 0) - A 5 (x / A 0 0)) 8 (x / A 0 0) - D (x / A 0 0) < M3 8 (x / A 0 0) - D (x / A 0 0)
        rw [zup_at]; omega
    exact hK2 (1, x + 1, zup M3 8 (x / A 0 0) (M3 8 (x % A 0 0) - A 5 (x / A 0 0))) ⟨hS4, by show 0 ≤ x + 1; omega, by show x + 1 ≤ A 0 0 * A 0 0; omega, Or.inr ⟨rfl, by show slqN A D (zup M3 8 (x / A 0 0) (M3 8 (x % A 0 0) - A 5 (x / A 0 0))) < slqN A D M2; rcases hg with z | z <;> omega⟩⟩ (by show (A 0 0 * A 0 0 - (x + 1)).toNat < (A 0 0 * A 0 0 - x).toNat; omega)
  · have v := bd x x0 (by omega)
    refine ⟨by omega, by omega, by omega, ?_⟩
    rintro _ rfl
    refine ⟨by omega, ?_⟩
    rintro _ rfl
    refine hK (x + 1, zup M1 8 x (gEnd A - A 5 x)) ⟨by show 0 ≤ x + 1; omega, by show x + 1 ≤ A 0 0; omega, fun q q1 q2 => (zup_other q2).trans (hs q q1 q2), fun i j i0 i1 j0 j1 => ?_, fun j j0 j1 => ?_⟩ (by show (A 0 0 - (x + 1)).toNat < (A 0 0 - x).toNat; omega)
    · show ¬ zup M1 8 x (gEnd A - A 5 x) 7 (30 * i + j) = 0 ↔ pushP A i j
      rw [zup_other (by decide)]; exact hp i j i0 i1 j0 j1
    · have j1 : j < x + 1 := j1
      show zup M1 8 x (gEnd A - A 5 x) 8 j = gEnd A - A 5 j
      by_cases e : j = x
      · rw [e, zup_at]
      · rw [zup_ne e]; exact h8 j j0 (by omega)
noncomputable def rowT (A : zA) : Nat → Int → Int
  | 0, i => A 5 i
  | r + 1, i => by classical exact max (rowT A r i) (mxI (fun j => if pushP A i j then A 5 i + rowT A r j else 0) (A 0 0))
theorem rowT_s (r : Nat) (i : Int) : rowT A r i ≤ rowT A (r + 1) i := by
  unfold rowT
  cases r <;> simp only [rowT] <;> omega
theorem rowT_mono {r s : Nat} (h : r ≤ s) (i : Int) : rowT A r i ≤ rowT A s i := by
  induction s with
  | zero => rw [show r = 0 by omega]; exact Int.le_refl _
  | succ s ih =>
    by_cases e : r = s + 1
    · rw [e]; exact Int.le_refl _
    · exact Int.le_trans (ih (by omega)) (rowT_s s i)
theorem rowT_push {r : Nat} {i j : Int} (j0 : 0 ≤ j) (j1 : j < A 0 0) (hp : pushP A i j) : A 5 i + rowT A r j ≤ rowT A (r + 1) i := by
  classical
  have := mxI_ub (f := fun j => if pushP A i j then A 5 i + rowT A r j else 0) j0 j1
  simp only [if_pos hp] at this
  show _ ≤ max (rowT A r i) (mxI (fun j => if pushP A i j then A 5 i + rowT A r j else 0) (A 0 0))
  omega
theorem rowT_le {r : Nat} {i c : Int} (h0 : rowT A r i ≤ c) (c0 : 0 ≤ c) (h : ∀ j, 0 ≤ j → j < A 0 0 → pushP A i j → A 5 i + rowT A r j ≤ c) : rowT A (r + 1) i ≤ c := by
  classical
  have : mxI (fun j => if pushP A i j then A 5 i + rowT A r j else 0) (A 0 0) ≤ c := mxI_le c0 (fun j j0 j1 => by
    by_cases hp : pushP A i j
    · simp only [if_pos hp]; exact h j j0 j1 hp
    · simp only [if_neg hp]; exact c0)
  show max (rowT A r i) (mxI (fun j => if pushP A i j then A 5 i + rowT A r j else 0) (A 0 0)) ≤ c
  omega
theorem rowT_5 (r : Nat) (i : Int) : A 5 i ≤ rowT A r i := rowT_mono (Nat.zero_le r) i
theorem row_reach (hv : Val B A) {o R : Int → Int} (ho : SortP A o (A 0 0)) (hR : RowP A R) : ∀ m t : Nat, t < m → (t : Int) < A 0 0 → ∀ r : Nat, ∃ i, 0 ≤ i ∧ i < A 0 0 ∧ R (o t) + rowT A r (o t) - A 5 (o t) ≤ rowT A (r + t) i := by
  intro m
  induction m with
  | zero => intro t ht; omega
  | succ m ih =>
    intro t ht t1 r
    have ot := ho.1 t (by omega) t1
    rcases (hR.1 _ ot.1 ot.2).2.2 with e | ⟨i, i0, i1, hp, e⟩
    · exact ⟨o t, ot.1, ot.2, by have := rowT_mono (A := A) (Nat.le_add_right r t) (o t); omega⟩
    · obtain ⟨u, u0, u1, eu⟩ := ho.2.2 i i0 i1
      have lt := sort_lt ho u0 u1 (by omega) t1 (by rw [eu]; exact push_lt hv i0 i1 ot.1 ot.2 hp)
      obtain ⟨k, k0, k1, hk⟩ := ih u.toNat (by omega) (by omega) (r + 1)
      rw [show ((u.toNat : Nat) : Int) = u by omega, eu] at hk
      have h1 := rowT_push (r := r) ot.1 ot.2 hp
      have h2 := rowT_mono (A := A) (show r + 1 + u.toNat ≤ r + t by omega) k
      exact ⟨k, k0, k1, by omega⟩
theorem longestM_ok (hr : RV A (M 1)) (hv : Val B A) {o R : Int → Int} (ho : SortP A o (A 0 0)) (hR : RowP A R) {Φ : Int → zM → Prop} (h : ∀ M', (∀ q, q ≠ 7 → q ≠ 10 → M' q = M q) → Φ (mxI R (A 0 0)) M') : jM_longest M Φ := by
  have hn := hv.n
  have hnn := nn_le hn.1 hn.2
  have gb : 0 ≤ mxI R (A 0 0) ∧ mxI R (A 0 0) ≤ 1200 := ⟨mxI_nn _ _, mxI_le (by omega) (fun j j0 j1 => (hR.1 j j0 j1).2.1)⟩
  have gu : ∀ j, 0 ≤ j → j < A 0 0 → R j ≤ mxI R (A 0 0) := fun j j0 j1 => mxI_ub j0 j1
  unfold jM_longest
  refine layPushes_ok hr hv (fun M0 hs0 hp0 => ?_)
  rw [show M0 1 0 = A 0 0 by rw [hs0 1 (by decide)]; exact hr.n]
  rintro _ rfl
  refine zwh_run (fun s => 0 ≤ s.1 ∧ s.1 ≤ A 0 0 ∧ (∀ q, q ≠ 7 → q ≠ 10 → s.2 q = M q) ∧ RefP A s.2 ∧ ∀ j, 0 ≤ j → j < s.1 → s.2 10 j = A 5 j) (fun s => (A 0 0 - s.1).toNat) ?_ (0, M0) ⟨Int.le_refl 0, hn.1, fun q q1 q2 => hs0 q q1, hp0, fun j j0 j1 => by have j1 : j < 0 := j1; omega⟩
  rintro K ⟨x, M1⟩ ⟨x0, x1, hs, hp, h8⟩ hK
  have x0 : 0 ≤ x := x0
  have x1 : x ≤ A 0 0 := x1
  have hs : ∀ q, q ≠ 7 → q ≠ 10 → M1 q = M q := hs
  have hp : RefP A M1 := hp
  have h8 : ∀ j, 0 ≤ j → j < x → M1 10 j = A 5 j := h8
  have hr1 : RV A (M1 1) := by rw [hs 1 (by decide) (by decide)]; exact hr
  show jM_longest_L15 K Φ (A 0 0) 0 x M1
  unfold jM_longest_L15
  refine ⟨fun q => ?_, fun q => of3_ok hr1 hv x0 (by omega) ?_⟩
  · have ex : x = A 0 0 := by omega
    subst ex
    clear hK
    refine zwh_run (fun s => 0 ≤ s.1 ∧ s.1 ≤ A 0 0 ∧ (∀ q, q ≠ 7 → q ≠ 10 → s.2 q = M q) ∧ RefP A s.2 ∧ ∀ j, 0 ≤ j → j < A 0 0 → rowT A s.1.toNat j ≤ s.2 10 j ∧ s.2 10 j + R j - A 5 j ≤ mxI R (A 0 0)) (fun s => (A 0 0 - s.1).toNat) ?_ (0, M1) ⟨Int.le_refl 0, hn.1, hs, hp, fun j j0 j1 => by
      show rowT A 0 j ≤ M1 10 j ∧ M1 10 j + R j - A 5 j ≤ mxI R (A 0 0)
      have := gu j j0 j1
      rw [h8 j j0 j1]
      exact ⟨Int.le_refl _, by omega⟩⟩
    rintro K ⟨x, M2⟩ ⟨x0, x1, hs2, hp2, hb2⟩ hK
    have x0 : 0 ≤ x := x0
    have x1 : x ≤ A 0 0 := x1
    have hs2 : ∀ q, q ≠ 7 → q ≠ 10 → M2 q = M q := hs2
    have hp2 : RefP A M2 := hp2
    have hb2 : ∀ j, 0 ≤ j → j < A 0 0 → rowT A x.toNat j ≤ M2 10 j ∧ M2 10 j + R j - A 5 j ≤ mxI R (A 0 0) := hb2
    show jM_longest_L40 K Φ (A 0 0) 0 x M2
    unfold jM_longest_L40
    refine ⟨fun q2 => ?_, fun q2 => ?_⟩
    · have ex : x = A 0 0 := by omega
      have fin : mxI (M2 10) (A 0 0) = mxI R (A 0 0) := by
        have le1 : mxI (M2 10) (A 0 0) ≤ mxI R (A 0 0) := mxI_le gb.1 (fun j j0 j1 => by have := hb2 j j0 j1; have := hR.1 j j0 j1; omega)
        have le2 : mxI R (A 0 0) ≤ mxI (M2 10) (A 0 0) := mxI_le (mxI_nn _ _) (fun j j0 j1 => by
          obtain ⟨t, t0, t1, e⟩ := ho.2.2 j j0 j1
          obtain ⟨k, k0, k1, hk⟩ := row_reach hv ho hR (t.toNat + 1) t.toNat (by omega) (by omega) 0
          rw [show ((t.toNat : Nat) : Int) = t by omega, e] at hk
          have h1 := rowT_mono (A := A) (show 0 + t.toNat ≤ x.toNat by omega) k
          have h2 := hb2 k k0 k1
          have h3 := mxI_ub (f := M2 10) k0 k1
          have h4 : rowT A 0 j = A 5 j := rfl
          omega)
        omega
      refine zfor2 (fun y => mxI (M2 10) y) (n := A 0 0) hn.1 rfl (fun K3 => ?_) (fun K3 y y0 y1 hK3 => ?_)
      · show jM_longest_L138 K3 Φ (A 0 0) M2 (mxI (M2 10) (A 0 0)) (A 0 0)
        unfold jM_longest_L138
        rw [fin]
        exact ⟨fun _ => h M2 hs2, fun z => absurd (Int.le_refl _) z⟩
      · show jM_longest_L138 K3 Φ (A 0 0) M2 (mxI (M2 10) y) y
        unfold jM_longest_L138
        refine ⟨fun z => by omega, fun _ => ⟨by omega, by omega, most_ok ⟨by omega, ?_⟩⟩⟩
        rintro _ rfl
        rw [mxI_s _ y0] at hK3
        exact hK3
    refine zwh_run (fun s => 0 ≤ s.1 ∧ s.1 ≤ A 0 0 * A 0 0 ∧ (∀ q, q ≠ 7 → q ≠ 10 → s.2 q = M q) ∧ RefP A s.2 ∧ (∀ j, 0 ≤ j → j < A 0 0 → rowT A x.toNat j ≤ s.2 10 j ∧ s.2 10 j + R j - A 5 j ≤ mxI R (A 0 0)) ∧ ∀ i j, 0 ≤ i → i < A 0 0 → 0 ≤ j → j < A 0 0 → A 0 0 * i + j < s.1 → pushP A i j → A 5 i + rowT A x.toNat j ≤ s.2 10 i) (fun s => (A 0 0 * A 0 0 - s.1).toNat) ?_ (0, M2) ⟨Int.le_refl 0, hnn.1, hs2, hp2, hb2, fun i j i0 i1 j0 j1 hp => by have := (plt_ok i0 i1 j0 j1).1; have hp : A 0 0 * i + j < 0 := hp; omega⟩
    rintro K2 ⟨p, M3⟩ ⟨p0, p1, hs3, hp3, hb3, hg3⟩ hK2
    have p0 : 0 ≤ p := p0
    have p1 : p ≤ A 0 0 * A 0 0 := p1
    have hs3 : ∀ q, q ≠ 7 → q ≠ 10 → M3 q = M q := hs3
    have hp3 : RefP A M3 := hp3
    have hb3 : ∀ j, 0 ≤ j → j < A 0 0 → rowT A x.toNat j ≤ M3 10 j ∧ M3 10 j + R j - A 5 j ≤ mxI R (A 0 0) := hb3
    have hg3 : ∀ i j, 0 ≤ i → i < A 0 0 → 0 ≤ j → j < A 0 0 → A 0 0 * i + j < p → pushP A i j → A 5 i + rowT A x.toNat j ≤ M3 10 i := hg3
    show jM_longest_L48 K K2 Φ (A 0 0) 0 x p M3
    unfold jM_longest_L48
    refine ⟨by omega, fun q3 => ⟨by omega, ?_⟩, fun q3 => ?_⟩
    · rintro _ rfl
      refine hK (x + 1, M3) ⟨by show 0 ≤ x + 1; omega, by show x + 1 ≤ A 0 0; omega, hs3, hp3, fun j j0 j1 => ⟨?_, (hb3 j j0 j1).2⟩⟩ (by show (A 0 0 - (x + 1)).toNat < (A 0 0 - x).toNat; omega)
      show rowT A (x + 1).toNat j ≤ M3 10 j
      rw [show (x + 1).toNat = x.toNat + 1 by omega]
      have t5 := rowT_5 (A := A) x.toNat j
      have v := hv.day j j0 j1
      have b := hb3 j j0 j1
      exact rowT_le b.1 (by omega) (fun k k0 k1 hk => hg3 j k j0 j1 k0 k1 (by have := (plt_ok j0 j1 k0 k1).2; omega) hk)
    obtain ⟨np, v0, v1, w0, w1, vw⟩ := pq_ok hn.1 p0 (show p < A 0 0 * A 0 0 by omega)
    have fa := hb3 _ v0 v1
    have fb := hb3 _ w0 w1
    have va := hv.day _ v0 v1
    have vb := hv.day _ w0 w1
    have ta := rowT_5 (A := A) x.toNat (p / A 0 0)
    have tb := rowT_5 (A := A) x.toNat (p % A 0 0)
    have Ra := hR.1 _ v0 v1
    have Rb := hR.1 _ w0 w1
    have hr3 : RV A (M3 1) := by rw [hs3 1 (by decide) (by decide)]; exact hr
    have fin : ∀ s2, M3 10 (p / A 0 0) ≤ s2 → s2 + R (p / A 0 0) - A 5 (p / A 0 0) ≤ mxI R (A 0 0) → (pushP A (p / A 0 0) (p % A 0 0) → A 5 (p / A 0 0) + rowT A x.toNat (p % A 0 0) ≤ s2) → jM_longest_J123 K K2 Φ (A 0 0) 0 x p (p / A 0 0) s2 M3 := by
      intro s2 l1 l2 l3
      unfold jM_longest_J123
      refine ⟨by omega, by omega, ?_⟩
      rintro _ rfl
      refine ⟨by omega, ?_⟩
      rintro _ rfl
      refine hK2 (p + 1, zup M3 10 (p / A 0 0) s2) ⟨by show 0 ≤ p + 1; omega, by show p + 1 ≤ A 0 0 * A 0 0; omega, fun q q1 q2 => (zup_other q2).trans (hs3 q q1 q2), fun i j i0 i1 j0 j1 => ?_, fun j j0 j1 => ?_, fun i j i0 i1 j0 j1 hpp hij => ?_⟩ (by show (A 0 0 * A 0 0 - (p + 1)).toNat < (A 0 0 * A 0 0 - p).toNat; omega)
      · show ¬ zup M3 10 (p / A 0 0) s2 7 (30 * i + j) = 0 ↔ pushP A i j
        rw [zup_other (by decide)]; exact hp3 i j i0 i1 j0 j1
      · show rowT A x.toNat j ≤ zup M3 10 (p / A 0 0) s2 10 j ∧ zup M3 10 (p / A 0 0) s2 10 j + R j - A 5 j ≤ mxI R (A 0 0)
        by_cases e : j = p / A 0 0
        · rw [e, zup_at]; omega
        · rw [zup_ne e]; exact hb3 j j0 j1
      · have hpp : A 0 0 * i + j < p + 1 := hpp
        show A 5 i + rowT A x.toNat j ≤ zup M3 10 (p / A 0 0) s2 10 i
        by_cases e : A 0 0 * i + j = p
        · obtain ⟨e1, e2⟩ := pinj_ok j0 j1 e
          rw [e1, e2] at l3
          rw [e1, zup_at]
          exact l3 hij
        · have := hg3 i j i0 i1 j0 j1 (by omega) hij
          by_cases e3 : i = p / A 0 0
          · rw [e3, zup_at]; rw [e3] at this; omega
          · rw [zup_ne e3]; exact this
    refine ⟨p0, np, ?_⟩
    rintro _ rfl
    refine ⟨by omega, p0, np, by omega, by omega, by omega, fun z => ⟨by omega, by omega, fin _ (Int.le_refl _) fa.2 (fun y => absurd z ((hp3 _ _ v0 v1 w0 w1).mpr y))⟩, fun z => ⟨by omega, by omega, of3_ok hr3 hv v0 v1 ⟨p0, np, by omega, by omega, by omega, most_ok ?_⟩⟩⟩
    have hz := (hp3 _ _ v0 v1 w0 w1).mp z
    have cl := hR.2 _ _ v0 v1 w0 w1 hz
    exact fin _ (by omega) (by omega) (fun _ => by omega)
  · have v := hv.day x x0 (by omega)
    refine ⟨by omega, by omega, ?_⟩
    rintro _ rfl
    refine ⟨by omega, ?_⟩
    rintro _ rfl
    refine hK (x + 1, zup M1 10 x (A 5 x)) ⟨by show 0 ≤ x + 1; omega, by show x + 1 ≤ A 0 0; omega, fun q q1 q2 => (zup_other q2).trans (hs q q1 q2), fun i j i0 i1 j0 j1 => ?_, fun j j0 j1 => ?_⟩ (by show (A 0 0 - (x + 1)).toNat < (A 0 0 - x).toNat; omega)
    · show ¬ zup M1 10 x (A 5 x) 7 (30 * i + j) = 0 ↔ pushP A i j
      rw [zup_other (by decide)]; exact hp i j i0 i1 j0 j1
    · have j1 : j < x + 1 := j1
      show zup M1 10 x (A 5 x) 10 j = A 5 j
      by_cases e : j = x
      · rw [e, zup_at]
      · rw [zup_ne e]; exact h8 j j0 (by omega)
end RM
