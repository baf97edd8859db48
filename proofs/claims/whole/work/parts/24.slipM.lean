/-! slipping; the reference's side -/
theorem sumN_lt {f g : Int → Int} : ∀ {n : Nat}, (∀ j : Int, 0 ≤ j → j < n → g j ≤ f j) → (∃ j : Int, 0 ≤ j ∧ j < n ∧ g j < f j) → sumN g n < sumN f n
  | 0, _, h => by obtain ⟨j, j0, j1, _⟩ := h; omega
  | n + 1, h, hx => by
    show sumN g n + g n < sumN f n + f n
    have hn := h n (by omega) (by omega)
    have le : sumN g n ≤ sumN f n := by
      have : ∀ m : Nat, m ≤ n → sumN g m ≤ sumN f m := by
        intro m
        induction m with
        | zero => intro _; exact Int.le_refl _
        | succ m ih => intro hm; have := ih (by omega); have := h m (by omega) (by omega); show sumN g m + g m ≤ sumN f m + f m; omega
      exact this n (Nat.le_refl n)
    obtain ⟨j, j0, j1, j2⟩ := hx
    by_cases e : j = n
    · subst e; omega
    · have := sumN_lt (n := n) (fun k k0 k1 => h k k0 (by omega)) ⟨j, j0, by omega, j2⟩
      omega
theorem sumI_lt {f g : Int → Int} {n : Int} (h : ∀ j, 0 ≤ j → j < n → g j ≤ f j) (hx : ∃ j, 0 ≤ j ∧ j < n ∧ g j < f j) : sumI g n < sumI f n := by
  obtain ⟨j, j0, j1, j2⟩ := hx
  exact sumN_lt (fun k k0 k1 => h k k0 (by omega)) ⟨j, j0, by omega, j2⟩
theorem sumI_nn {f : Int → Int} {n : Int} (h : ∀ j, 0 ≤ j → j < n → 0 ≤ f j) : 0 ≤ sumI f n := by
  have : ∀ m : Nat, (m : Int) ≤ n → 0 ≤ sumN f m := by
    intro m
    induction m with
    | zero => intro _; exact Int.le_refl _
    | succ m ih => intro hm; have := ih (by omega); have := h m (by omega) (by omega); show 0 ≤ sumN f m + f m; omega
  rcases Int.le_total 0 n with q | q
  · exact this n.toNat (by omega)
  · unfold sumI; rw [show n.toNat = 0 by omega]; exact Int.le_refl _
def movedN (A : zA) (D : Int → Int) : Int := cntA (fun j => decide (D j ≠ A 4 j)) (A 0 0)
def slidN (A : zA) (D : Int → Int) : Int := sumI (fun j => D j - A 4 j) (A 0 0)
def slipA (A : zA) (D : Int → Int) : zA := fun k j => if k = 4 ∧ 0 ≤ j ∧ j < A 0 0 then D j else if k = 13 ∧ j = 0 then A 13 0 + slidN A D else A k j
theorem slipA_4 {A : zA} {D : Int → Int} {j : Int} (j0 : 0 ≤ j) (j1 : j < A 0 0) : slipA A D 4 j = D j := by unfold slipA; rw [if_pos ⟨rfl, j0, j1⟩]
theorem slipA_13 {A : zA} {D : Int → Int} : slipA A D 13 0 = A 13 0 + slidN A D := by unfold slipA; rw [if_neg (by omega), if_pos ⟨rfl, rfl⟩]
theorem slipA_o {A : zA} {D : Int → Int} {k : Nat} {j : Int} (h1 : k ≠ 4) (h2 : k ≠ 13) : slipA A D k j = A k j := by unfold slipA; rw [if_neg (by omega), if_neg (by omega)]
theorem slip_RV {A : zA} {D σ σ0 : Int → Int} (hn : 0 ≤ A 0 0 ∧ A 0 0 ≤ 30) (ha : 0 ≤ A 6 0 ∧ A 6 0 ≤ 40) (h0 : RV A σ0) (h1 : ∀ k, k ≠ 446 → (∀ j, 0 ≤ j → j < A 0 0 → k ≠ 1 + 4 * j + 2) → σ k = σ0 k) (h2 : ∀ j, 0 ≤ j → j < A 0 0 → σ (1 + 4 * j + 2) = D j) (h3 : σ 446 = A 13 0 + slidN A D) (hf : ∀ j, 0 ≤ j → j < A 6 0 → 0 ≤ A 9 j ∧ 0 ≤ A 10 j) : RV (slipA A D) σ := by
  refine ⟨?_, ?_, ?_, ?_, ?_, ?_, ?_, ?_, ?_, ?_, ?_, ?_, ?_, ?_⟩
  · rw [slipA_o (by decide) (by decide), h1 0 (by decide) (fun j j0 j1 => by omega)]; exact h0.n
  · rw [slipA_o (by decide) (by decide), h1 444 (by decide) (fun j j0 j1 => by omega)]; exact h0.ever
  · rw [slipA_o (by decide) (by decide), h1 121 (by decide) (fun j j0 j1 => by omega)]; exact h0.a
  · rw [slipA_o (by decide) (by decide), h1 445 (by decide) (fun j j0 j1 => by omega)]; exact h0.aever
  · rw [slipA_13]; exact h3
  · intro j j0 j1
    rw [slipA_o (by decide) (by decide)] at j1 ⊢
    rw [h1 _ (by omega) (fun i i0 i1 => by omega)]; exact h0.num j j0 j1
  · intro j j0 j1
    rw [slipA_o (by decide) (by decide)] at j1 ⊢
    rw [h1 _ (by omega) (fun i i0 i1 => by omega)]; exact h0.lane j j0 j1
  · intro j j0 j1
    rw [slipA_o (by decide) (by decide)] at j1
    rw [slipA_4 j0 j1]; exact h2 j j0 j1
  · intro j j0 j1
    rw [slipA_o (by decide) (by decide)] at j1 ⊢
    rw [h1 _ (by omega) (fun i i0 i1 => by omega)]; exact h0.days j j0 j1
  · intro j j0 j1
    rw [slipA_o (by decide) (by decide)] at j1 ⊢
    rw [h1 _ (by omega) (fun i i0 i1 => by omega)]; exact h0.anum j j0 j1
  · intro j j0 j1
    rw [slipA_o (by decide) (by decide)] at j1
    rw [slipA_o (k := 2) (by decide) (by decide), slipA_o (k := 9) (by decide) (by decide), h1 _ (by omega) (fun i i0 i1 => by omega)]; exact h0.from j j0 j1
  · intro j j0 j1
    rw [slipA_o (by decide) (by decide)] at j1
    rw [slipA_o (k := 2) (by decide) (by decide), slipA_o (k := 10) (by decide) (by decide), h1 _ (by omega) (fun i i0 i1 => by omega)]; exact h0.to j j0 j1
  · intro j j0 j1
    rw [slipA_o (by decide) (by decide), h1 _ (by omega) (fun i i0 i1 => by omega)]; exact h0.wid j j0 j1
  · intro j j0 j1
    rw [slipA_o (by decide) (by decide), h1 _ (by omega) (fun i i0 i1 => by omega)]; exact h0.set j j0 j1
section RM
variable {A : zA} {M : zM} {B : Int}
theorem fdA_nn (hv : Val B A) {a d j : Int} (d0 : 0 ≤ d) (j0 : 0 ≤ j) (j1 : j < A 0 0) : A 4 j ≤ fdA A a d j ∧ 0 ≤ fdA A a d j := by
  have := hv.day j j0 j1
  by_cases e : j = a
  · unfold fdA; rw [if_pos e]; omega
  · unfold fdA; rw [if_neg e]; omega
theorem slip_eq (hv : Val B A) {a d : Int} {F D : Int → Int} (hD : SlipP A a d D) (h1 : ∀ j, 0 ≤ j → j < A 0 0 → fdA A a d j ≤ F j ∧ F j ≤ D j) (h2 : ∀ i j, 0 ≤ i → i < A 0 0 → 0 ≤ j → j < A 0 0 → pushP A i j → F i + A 5 i ≤ F j) : ∀ j, 0 ≤ j → j < A 0 0 → F j = D j := by
  have key : ∀ m : Nat, ∀ j, 0 ≤ j → j < A 0 0 → A 4 j < m → F j = D j := by
    intro m
    induction m with
    | zero => intro j j0 j1 hm; have := hv.day j j0 j1; omega
    | succ m ih =>
      intro j j0 j1 hm
      have f := h1 j j0 j1
      rcases (hD.1 j j0 j1).2.2 with e | ⟨i, i0, i1, hp, e⟩
      · omega
      · have lt := push_lt hv i0 i1 j0 j1 hp
        have := ih i i0 i1 (by omega)
        have := h2 i j i0 i1 j0 j1 hp
        omega
  intro j j0 j1
  have := hv.day j j0 j1
  exact key 200 j j0 j1 (by omega)
def SlM (A : zA) (M M' : zM) (a d : Int) (D : Int → Int) : Prop := (∀ q, q ≠ 1 → q ≠ 7 → M' q = M q) ∧ RefP A M' ∧ (∀ k, (∀ j, 0 ≤ j → j < A 0 0 → k ≠ 1 + 4 * j + 2) → M' 1 k = M 1 k) ∧ ∀ j, 0 ≤ j → j < A 0 0 → fdA A a d j ≤ M' 1 (1 + 4 * j + 2) ∧ M' 1 (1 + 4 * j + 2) ≤ D j
def slkN (A : zA) (D : Int → Int) (M : zM) : Int := sumI (fun j => D j - M 1 (1 + 4 * j + 2)) (A 0 0)
theorem slkN_nn {a d : Int} {D : Int → Int} {M M' : zM} (h : SlM A M M' a d D) : 0 ≤ slkN A D M' := sumI_nn (fun j j0 j1 => by have := h.2.2.2 j j0 j1; omega)
theorem slipsEnd_ok (hr : RV A (M 1)) (hv : Val B A) (hB : B ≤ 2000000000) (hside : ∀ k, 0 ≤ k → k < 447 → M 2 k = M 1 k) {a d : Int} {D : Int → Int} (d0 : 0 ≤ d) (hD : SlipP A a d D) {M1 : zM} (hs : SlM A M M1 a d D) (he : ∀ j, 0 ≤ j → j < A 0 0 → M1 1 (1 + 4 * j + 2) = D j) {Φ : Int → zM → Prop} (h : ∀ M', (∀ q, q ≠ 1 → q ≠ 7 → M' q = M q) → RV (slipA A D) (M' 1) → Φ (movedN A D) M') : zwh (fun K s => jM_slips_L130 a d K Φ (A 0 0) (s.1) (s.2.1) (s.2.2)) (0, 0, M1) := by
  have hn := hv.n
  have ha := hv.a
  have hsl := hv.slip
  have part : ∀ x, 0 ≤ x → x ≤ A 0 0 → 0 ≤ sumI (fun j => D j - A 4 j) x ∧ sumI (fun j => D j - A 4 j) x ≤ 1200 * x := fun x x0 x1 => sumI_rng x0 (fun j j0 j1 => by
    have h1 := hD.1 j j0 (by omega)
    have h2 := fdA_nn hv (a := a) d0 j0 (show j < A 0 0 by omega)
    have h3 := hv.day j j0 (by omega)
    omega)
  refine zwh_run (fun s => 0 ≤ s.2.1 ∧ s.2.1 ≤ A 0 0 ∧ s.1 = cntA (fun j => decide (D j ≠ A 4 j)) s.2.1 ∧ (∀ q, q ≠ 1 → s.2.2 q = M1 q) ∧ (∀ k, k ≠ 446 → s.2.2 1 k = M1 1 k) ∧ s.2.2 1 446 = A 13 0 + sumI (fun j => D j - A 4 j) s.2.1) (fun s => (A 0 0 - s.2.1).toNat) ?_ (0, 0, M1) ⟨Int.le_refl 0, hn.1, rfl, fun _ _ => rfl, fun _ _ => rfl, ?_⟩
  · rintro K ⟨c, x, M2⟩ ⟨x0, x1, hc, hq, hk, hsum⟩ hK
    have x0 : 0 ≤ x := x0
    have x1 : x ≤ A 0 0 := x1
    have hc : c = cntA (fun j => decide (D j ≠ A 4 j)) x := hc
    have hq : ∀ q, q ≠ 1 → M2 q = M1 q := hq
    have hk : ∀ k, k ≠ 446 → M2 1 k = M1 1 k := hk
    have hsum : M2 1 446 = A 13 0 + sumI (fun j => D j - A 4 j) x := hsum
    have cr := cntA_rng (p := fun j => decide (D j ≠ A 4 j)) x0
    show jM_slips_L130 a d K Φ (A 0 0) c x M2
    unfold jM_slips_L130
    refine ⟨fun q => ?_, fun q => of_raw x0 (by omega) (by omega) (by omega) ?_⟩
    · have ex : x = A 0 0 := by omega
      subst ex
      rw [hc]
      refine h M2 (fun q q1 q2 => (hq q q1).trans (hs.1 q q1 q2)) (slip_RV hn ha hr (fun k k1 k2 => (hk k k1).trans (hs.2.2.1 k k2)) (fun j j0 j1 => (hk _ (by omega)).trans (he j j0 j1)) hsum (fun j j0 j1 => ⟨(hv.from j j0 j1).1, (hv.to j j0 j1).1⟩))
    · have e1 : M2 1 (1 + 4 * x + 2) = D x := (hk _ (by omega)).trans (he x x0 (by omega))
      have e2 : M2 2 (1 + 4 * x + 2) = A 4 x := by rw [hq 2 (by decide), hs.1 2 (by decide) (by decide), hside _ (by omega) (by omega)]; exact hr.first x x0 (by omega)
      have p1 := part x x0 x1
      have p2 := part (x + 1) (by omega) (by omega)
      rw [sumI_s _ x0] at p2
      have fin : ∀ s1, cntA (fun j => decide (D j ≠ A 4 j)) (x + 1) = c + s1 → 0 ≤ s1 → s1 ≤ 1 → jM_slips_J166 a d K Φ (A 0 0) x c s1 M2 := by
        intro s1 hs1 l0 l1
        unfold jM_slips_J166
        refine ⟨by omega, ?_⟩
        rintro _ rfl
        refine of_raw x0 (by omega) (by omega) (by omega) ?_
        rw [e1, e2, hsum]
        refine ⟨by omega, by omega, by omega, by omega, by omega, by omega, by omega, ?_⟩
        rintro _ rfl
        refine ⟨by omega, ?_⟩
        rintro _ rfl
        refine hK (c + s1, x + 1, zup M2 1 446 (A 13 0 + sumI (fun j => D j - A 4 j) x + (D x - A 4 x))) ⟨by show 0 ≤ x + 1; omega, by show x + 1 ≤ A 0 0; omega, hs1.symm, fun q q1 => (zup_other q1).trans (hq q q1), fun k k1 => (zup_ne k1).trans (hk k k1), ?_⟩ (by show (A 0 0 - (x + 1)).toNat < (A 0 0 - x).toNat; omega)
        show zup M2 1 446 (A 13 0 + sumI (fun j => D j - A 4 j) x + (D x - A 4 x)) 1 446 = A 13 0 + sumI (fun j => D j - A 4 j) (x + 1)
        rw [zup_at, sumI_s _ x0]; omega
      rw [e1, e2]
      refine ⟨by omega, by omega, by omega, by omega, by omega, fun z => fin 1 ?_ (by omega) (by omega), fun z => fin 0 ?_ (by omega) (by omega)⟩
      · rw [hc, cntA_t x0 (by rw [decide_eq_true_iff]; exact z)]
      · rw [hc, cntA_f x0 (by rw [decide_eq_true_iff]; exact fun y => y z)]
  · show M1 1 446 = A 13 0 + sumI (fun j => D j - A 4 j) 0
    rw [sumI_0, hs.2.2.1 446 (fun j j0 j1 => by omega), hr.slip]; omega
theorem slips_ok (hr : RV A (M 1)) (hv : Val B A) (hB : B ≤ 2000000000) (hside : ∀ k, 0 ≤ k → k < 447 → M 2 k = M 1 k) {a d : Int} {D : Int → Int} (a0 : 0 ≤ a) (a1 : a < A 0 0) (d0 : 0 ≤ d) (d1 : d ≤ 30) (hD : SlipP A a d D) {Φ : Int → zM → Prop} (h : ∀ M', (∀ q, q ≠ 1 → q ≠ 7 → M' q = M q) → RV (slipA A D) (M' 1) → Φ (movedN A D) M') : jM_slips a d M Φ := by
  have hn := hv.n
  have hnn := nn_le hn.1 hn.2
  unfold jM_slips
  refine layPushes_ok hr hv (fun M1 hs hp => ?_)
  have m1 : M1 1 = M 1 := hs 1 (by decide)
  rw [m1, hr.n]
  rintro _ rfl
  have da := hv.day a a0 a1
  rw [hr.first a a0 a1]
  refine ⟨by omega, by omega, by omega, by omega, by omega, by omega, by omega, by omega, ?_⟩
  rintro _ rfl
  refine zwh_run (fun s => SlM A M s.2 a d D ∧ (s.1 = 0 ∨ s.1 = 1) ∧ (s.1 = 0 → ∀ i j, 0 ≤ i → i < A 0 0 → 0 ≤ j → j < A 0 0 → pushP A i j → s.2 1 (1 + 4 * i + 2) + A 5 i ≤ s.2 1 (1 + 4 * j + 2))) (fun s => (2 * slkN A D s.2 + s.1).toNat) ?_ (1, zup M1 1 (1 + 4 * a + 2) (A 4 a + d)) ⟨⟨fun q q1 q2 => (zup_other q1).trans (hs q q2), fun i j i0 i1 j0 j1 => ?_, fun k hk => ?_, fun j j0 j1 => ?_⟩, Or.inr rfl, fun z => by have z : (1 : Int) = 0 := z; omega⟩
  · rintro K ⟨f, M2⟩ ⟨hS, hf, hcl⟩ hK
    have hS : SlM A M M2 a d D := hS
    have hf : f = 0 ∨ f = 1 := hf
    have hcl : f = 0 → ∀ i j, 0 ≤ i → i < A 0 0 → 0 ≤ j → j < A 0 0 → pushP A i j → M2 1 (1 + 4 * i + 2) + A 5 i ≤ M2 1 (1 + 4 * j + 2) := hcl
    show jM_slips_L30 a d K Φ (A 0 0) f M2
    unfold jM_slips_L30
    refine ⟨fun q => slipsEnd_ok hr hv hB hside d0 hD hS (slip_eq hv (F := fun j => M2 1 (1 + 4 * j + 2)) hD hS.2.2.2 (hcl q)) h, fun q => ?_⟩
    have s0 := slkN_nn hS
    refine zwh_run (fun s => SlM A M s.2.2 a d D ∧ 0 ≤ s.2.1 ∧ s.2.1 ≤ A 0 0 * A 0 0 ∧ ((s.1 = 0 ∧ slkN A D s.2.2 = slkN A D M2 ∧ ∀ i j, 0 ≤ i → i < A 0 0 → 0 ≤ j → j < A 0 0 → A 0 0 * i + j < s.2.1 → pushP A i j → s.2.2 1 (1 + 4 * i + 2) + A 5 i ≤ s.2.2 1 (1 + 4 * j + 2)) ∨ (s.1 = 1 ∧ slkN A D s.2.2 < slkN A D M2))) (fun s => (A 0 0 * A 0 0 - s.2.1).toNat) ?_ (0, 0, M2) ⟨hS, Int.le_refl 0, hnn.1, Or.inl ⟨rfl, rfl, fun i j i0 i1 j0 j1 hp => by have := (plt_ok i0 i1 j0 j1).1; have hp : A 0 0 * i + j < 0 := hp; omega⟩⟩
    rintro K2 ⟨g, x, M3⟩ ⟨hS3, x0, x1, hg⟩ hK2
    have hS3 : SlM A M M3 a d D := hS3
    have x0 : 0 ≤ x := x0
    have x1 : x ≤ A 0 0 * A 0 0 := x1
    have hg : (g = 0 ∧ slkN A D M3 = slkN A D M2 ∧ ∀ i j, 0 ≤ i → i < A 0 0 → 0 ≤ j → j < A 0 0 → A 0 0 * i + j < x → pushP A i j → M3 1 (1 + 4 * i + 2) + A 5 i ≤ M3 1 (1 + 4 * j + 2)) ∨ (g = 1 ∧ slkN A D M3 < slkN A D M2) := hg
    have s3 := slkN_nn hS3
    show jM_slips_L41 a d K K2 Φ (A 0 0) g x M3
    unfold jM_slips_L41
    refine ⟨by omega, fun q2 => ?_, fun q2 => ?_⟩
    · refine hK (g, M3) ⟨hS3, by show g = 0 ∨ g = 1; rcases hg with z | z; exact Or.inl z.1; exact Or.inr z.1, fun z => ?_⟩ (by show (2 * slkN A D M3 + g).toNat < (2 * slkN A D M2 + f).toNat; rcases hg with z | z <;> omega)
      have z : g = 0 := z
      rcases hg with y | y
      · intro i j i0 i1 j0 j1 hij
        exact y.2.2 i j i0 i1 j0 j1 (by have := (plt_ok i0 i1 j0 j1).2; omega) hij
      · omega
    obtain ⟨np, v0, v1, w0, w1, vw⟩ := pq_ok hn.1 x0 (show x < A 0 0 * A 0 0 by omega)
    have fa := hS3.2.2.2 _ v0 v1
    have fb := hS3.2.2.2 _ w0 w1
    have na := fdA_nn hv (a := a) d0 v0 v1
    have nb := fdA_nn hv (a := a) d0 w0 w1
    have Da := hD.1 _ v0 v1
    have Db := hD.1 _ w0 w1
    have va := hv.day _ v0 v1
    have ea : M3 1 (1 + 4 * (x / A 0 0) + 3) = A 5 (x / A 0 0) := by rw [hS3.2.2.1 _ (fun j j0 j1 => by omega)]; exact hr.days _ v0 v1
    have nx : (pushP A (x / A 0 0) (x % A 0 0) → M3 1 (1 + 4 * (x / A 0 0) + 2) + A 5 (x / A 0 0) ≤ M3 1 (1 + 4 * (x % A 0 0) + 2)) → (i32 (x + 1) ∧ ∀ v5_37 : Int, v5_37 = x + 1 → K2 (g, v5_37, M3)) := by
      intro hx
      refine ⟨by omega, ?_⟩
      rintro _ rfl
      refine hK2 (g, x + 1, M3) ⟨hS3, by show 0 ≤ x + 1; omega, by show x + 1 ≤ A 0 0 * A 0 0; omega, ?_⟩ (by show (A 0 0 * A 0 0 - (x + 1)).toNat < (A 0 0 * A 0 0 - x).toNat; omega)
      rcases hg with y | y
      · refine Or.inl ⟨y.1, y.2.1, fun i j i0 i1 j0 j1 hp hij => ?_⟩
        have hp : A 0 0 * i + j < x + 1 := hp
        by_cases e : A 0 0 * i + j = x
        · obtain ⟨e1, e2⟩ := pinj_ok j0 j1 e
          rw [e1, e2] at hx
          exact hx hij
        · exact y.2.2 i j i0 i1 j0 j1 (by omega) hij
      · exact Or.inr y
    refine ⟨x0, np, ?_⟩
    rintro _ rfl
    refine ⟨x0, np, by omega, by omega, by omega, by omega, fun p => nx (fun z => absurd p ((hS3.2.1 _ _ v0 v1 w0 w1).mpr z)), fun p => of_raw w0 (by omega) (by omega) (by omega) ⟨x0, np, end_raw v0 (by omega) (by omega) ?_⟩⟩
    have hp2 := (hS3.2.1 _ _ v0 v1 w0 w1).mp p
    have cl := hD.2 _ _ v0 v1 w0 w1 hp2
    rw [ea]
    refine ⟨fun q3 => nx (fun _ => q3), fun q3 => ⟨by omega, by omega, by omega, x0, np, end_raw v0 (by omega) (by omega) ?_⟩⟩
    rw [ea]
    refine ⟨by omega, by omega, ?_⟩
    rintro _ rfl
    refine ⟨by omega, ?_⟩
    rintro _ rfl
    have hS4 : SlM A M (zup M3 1 (1 + 4 * (x % A 0 0) + 2) (M3 1 (1 + 4 * (x / A 0 0) + 2) + A 5 (x / A 0 0))) a d D := by
      refine ⟨fun q q1 q2 => (zup_other q1).trans (hS3.1 q q1 q2), fun i j i0 i1 j0 j1 => ?_, fun k hk => (zup_ne (hk _ w0 w1)).trans (hS3.2.2.1 k hk), fun j j0 j1 => ?_⟩
      · rw [zup_other (by decide)]; exact hS3.2.1 i j i0 i1 j0 j1
      · by_cases e : j = x % A 0 0
        · rw [e, zup_at]; omega
        · rw [zup_ne (by omega)]; exact hS3.2.2.2 j j0 j1
    have lt : slkN A D (zup M3 1 (1 + 4 * (x % A 0 0) + 2) (M3 1 (1 + 4 * (x / A 0 0) + 2) + A 5 (x / A 0 0))) < slkN A D M3 := by
      refine sumI_lt (fun j j0 j1 => ?_) ⟨x % A 0 0, w0, w1, ?_⟩
      · show D j - zup M3 1 (1 + 4 * (x % A 0 0) + 2) (M3 1 (1 + 4 * (x / A 0 0) + 2) + A 5 (x / A 0 0)) 1 (1 + 4 * j + 2) ≤ D j - M3 1 (1 + 4 * j + 2)
        by_cases e : j = x % A 0 0
        · rw [e, zup_at]; omega
        · rw [zup_ne (by omega)]; exact Int.le_refl _
      · show D (x % A 0 0) - zup M3 1 (1 + 4 * (x % A 0 0) + 2) (M3 1 (1 + 4 * (x / A 0 0) + 2) + A 5 (x / A 0 0)) 1 (1 + 4 * (x % A 0 0) + 2) < D (x % A 0 0) - M3 1 (1 + 4 * (x % A 0 0) + 2)
        rw [zup_at]; omega
    exact hK2 (1, x + 1, zup M3 1 (1 + 4 * (x % A 0 0) + 2) (M3 1 (1 + 4 * (x / A 0 0) + 2) + A 5 (x / A 0 0))) ⟨hS4, by show 0 ≤ x + 1; omega, by show x + 1 ≤ A 0 0 * A 0 0; omega, Or.inr ⟨rfl, by show slkN A D (zup M3 1 _ _) < slkN A D M2; rcases hg with z | z <;> omega⟩⟩ (by show (A 0 0 * A 0 0 - (x + 1)).toNat < (A 0 0 * A 0 0 - x).toNat; omega)
  · show ¬ zup M1 1 (1 + 4 * a + 2) (A 4 a + d) 7 (30 * i + j) = 0 ↔ pushP A i j
    rw [zup_other (by decide)]; exact hp i j i0 i1 j0 j1
  · show zup M1 1 (1 + 4 * a + 2) (A 4 a + d) 1 k = M 1 k
    rw [zup_ne (hk a a0 a1), m1]
  · show fdA A a d j ≤ zup M1 1 (1 + 4 * a + 2) (A 4 a + d) 1 (1 + 4 * j + 2) ∧ zup M1 1 (1 + 4 * a + 2) (A 4 a + d) 1 (1 + 4 * j + 2) ≤ D j
    have Dj := hD.1 j j0 j1
    by_cases e : j = a
    · subst e
      rw [zup_at]
      have : fdA A j d j = A 4 j + d := by unfold fdA; rw [if_pos rfl]
      omega
    · rw [zup_ne (by omega), m1, hr.first j j0 j1]
      have : fdA A a d j = A 4 j := by unfold fdA; rw [if_neg e]; omega
      omega
end RM
