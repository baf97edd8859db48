/-! who pushes whom; the class's side -/
def pushP (A : zA) (i j : Int) : Prop := (A 3 i = A 3 j ∧ A 4 i < A 4 j) ∨ ∃ k, 0 ≤ k ∧ k < A 6 0 ∧ A 9 k = i ∧ A 10 k = j ∧ lateA A k = 0
theorem push_end {B : Int} {A : zA} (hv : Val B A) {i j : Int} (i0 : 0 ≤ i) (i1 : i < A 0 0) (j0 : 0 ≤ j) (j1 : j < A 0 0) (h : pushP A i j) : endA A i ≤ A 4 j := by
  rcases h with ⟨h1, h2⟩ | ⟨k, k0, k1, h1, h2, h3⟩
  · have ap := hv.apart i j i0 i1 j0 j1 (fun e => by subst e; omega) h1
    have dj := hv.day j j0 j1
    unfold endA; omega
  · subst h1; subst h2
    unfold lateA at h3; omega
theorem push_lt {B : Int} {A : zA} (hv : Val B A) {i j : Int} (i0 : 0 ≤ i) (i1 : i < A 0 0) (j0 : 0 ≤ j) (j1 : j < A 0 0) (h : pushP A i j) : A 4 i < A 4 j := by
  have := push_end hv i0 i1 j0 j1 h
  have := hv.day i i0 i1
  unfold endA at *; omega
def LexP (A : zA) (u v : Int) : Prop := A 4 u < A 4 v ∨ (A 4 u = A 4 v ∧ u < v)
def SortP (A : zA) (o : Int → Int) (n : Int) : Prop := (∀ t, 0 ≤ t → t < n → 0 ≤ o t ∧ o t < n) ∧ (∀ t u, 0 ≤ t → t < u → u < n → LexP A (o t) (o u)) ∧ ∀ j, 0 ≤ j → j < n → ∃ t, 0 ≤ t ∧ t < n ∧ o t = j
theorem sort_lt {A : zA} {o : Int → Int} {n t u : Int} (h : SortP A o n) (t0 : 0 ≤ t) (t1 : t < n) (u0 : 0 ≤ u) (u1 : u < n) (hl : A 4 (o t) < A 4 (o u)) : t < u := by
  rcases Int.lt_trichotomy t u with q | q | q
  · exact q
  · subst q; omega
  · have := h.2.1 u t u0 q t1; unfold LexP at this; omega
theorem sort_inj {A : zA} {o : Int → Int} {n t u : Int} (h : SortP A o n) (t0 : 0 ≤ t) (t1 : t < n) (u0 : 0 ≤ u) (u1 : u < n) (e : o t = o u) : t = u := by
  rcases Int.lt_trichotomy t u with q | q | q
  · have := h.2.1 t u t0 q u1; unfold LexP at this; rw [e] at this; omega
  · exact q
  · have := h.2.1 u t u0 q t1; unfold LexP at this; rw [e] at this; omega
def PushedP (A : zA) (M : zM) : Prop := ∀ i j, 0 ≤ i → i < A 0 0 → 0 ≤ j → j < A 0 0 → (bI (M 80 i) j = true ↔ pushP A i j)
def smP (M M' : zM) : Prop := ∀ a, a ≠ 79 → a ≠ 80 → a ≠ 81 → M' a = M a
theorem smP.cv {A : zA} {b : Nat} {M M' : zM} (h : smP M M') (hb : zCh b) (hc : CV A M b) : CV A M' b := hc.same (fun a a0 a1 => h a (by have := hb.lt; omega) (by have := hb.lt; omega) (by have := hb.lt; omega))
theorem zup_at (M : zM) (i : Nat) (k x : Int) : zup M i k x i k = x := by unfold zup; rw [if_pos ⟨rfl, rfl⟩]
theorem zup_ne {M : zM} {i : Nat} {k x : Int} {j : Int} (h : j ≠ k) : zup M i k x i j = M i j := by unfold zup; rw [if_neg (by omega)]
section RP
variable {A : zA} {M : zM} {b : Nat} {B : Int} {Φ : zM → Prop}
theorem sort_ok (hc : CV A M b) (hv : Val B A) (hb : zCh b) (h : ∀ M', (∀ a, a ≠ 79 → M' a = M a) → SortP A (M' 79) (A 0 0) → Φ M') : jP_sortByFirstDays b M Φ := by
  have hn := hv.n
  have hb2 := hb.lt
  have z0 : ∀ (M' : zM), (∀ a, a ≠ 79 → M' a = M a) → CV A M' b := fun M' h => hc.same (fun a a0 a1 => h a (by omega))
  unfold jP_sortByFirstDays
  refine zwh_run (fun s => 0 ≤ s.1 ∧ s.1 ≤ A 0 0 ∧ (∀ a, a ≠ 79 → s.2 a = M a) ∧ SortP A (s.2 79) s.1) (fun s => (A 0 0 - s.1).toNat) ?_ (0, M) ⟨Int.le_refl 0, hn.1, fun _ _ => rfl, fun t t0 t1 => by have t1 : t < 0 := t1; omega, fun t u t0 t1 t2 => by have t2 : u < 0 := t2; omega, fun j j0 j1 => by have j1 : j < 0 := j1; omega⟩
  rintro K ⟨x, M1⟩ ⟨x0, x1, hs, hso⟩ hK
  have x0 : 0 ≤ x := x0
  have x1 : x ≤ A 0 0 := x1
  have hs : ∀ a, a ≠ 79 → M1 a = M a := hs
  have hso : SortP A (M1 79) x := hso
  have hc1 := z0 M1 hs
  show jP_sortByFirstDays_L2 b K Φ x M1
  unfold jP_sortByFirstDays_L2
  rw [hc1.n]
  refine ⟨fun q => h M1 hs (by rw [show x = A 0 0 by omega] at hso; exact hso), fun q => ?_⟩
  refine zwh_run (fun s => 0 ≤ s.1 ∧ s.1 ≤ x ∧ (∀ a, a ≠ 79 → s.2 a = M a) ∧ (∀ t, t < s.1 → s.2 79 t = M1 79 t) ∧ (∀ t, s.1 < t → t ≤ x → s.2 79 t = M1 79 (t - 1)) ∧ ∀ t, s.1 ≤ t → t < x → A 4 x < A 4 (M1 79 t)) (fun s => s.1.toNat) ?_ (x, M1) ⟨x0, Int.le_refl _, hs, fun _ _ => rfl, fun t t0 t1 => by have t0 : x < t := t0; omega, fun t t0 t1 => by have t0 : x ≤ t := t0; omega⟩
  rintro K2 ⟨y, M2⟩ ⟨y0, y1, hs2, hlo, hhi, hgt⟩ hK2
  have y0 : 0 ≤ y := y0
  have y1 : y ≤ x := y1
  have hs2 : ∀ a, a ≠ 79 → M2 a = M a := hs2
  have hlo : ∀ t, t < y → M2 79 t = M1 79 t := hlo
  have hhi : ∀ t, y < t → t ≤ x → M2 79 t = M1 79 (t - 1) := hhi
  have hgt : ∀ t, y ≤ t → t < x → A 4 x < A 4 (M1 79 t) := hgt
  have hc2 := z0 M2 hs2
  show jP_sortByFirstDays_L12 b K K2 Φ x y M2
  have put : (y ≤ 0 ∨ A 4 (M1 79 (y - 1)) ≤ A 4 x) → jP_sortByFirstDays_J58 b K Φ x y M2 := by
    intro hp
    refine ⟨by omega, by omega, ?_⟩
    rintro _ rfl
    refine ⟨by omega, ?_⟩
    rintro _ rfl
    have e : ∀ t, 0 ≤ t → t < x + 1 → zup M2 79 y x 79 t = if t < y then M1 79 t else if t = y then x else M1 79 (t - 1) := by
      intro t t0 t1
      by_cases q1 : t < y
      · rw [if_pos q1, zup_ne (by omega), hlo t q1]
      · rw [if_neg q1]
        by_cases q2 : t = y
        · rw [if_pos q2, q2, zup_at]
        · rw [if_neg q2, zup_ne q2, hhi t (by omega) (by omega)]
    have low : ∀ t, 0 ≤ t → t < y → A 4 (M1 79 t) ≤ A 4 x := by
      intro t t0 t1
      rcases hp with hp | hp
      · omega
      · by_cases q : t = y - 1
        · rw [q]; exact hp
        · have := hso.2.1 t (y - 1) t0 (by omega) (by omega); unfold LexP at this; omega
    refine hK (x + 1, _) ⟨by show 0 ≤ x + 1; omega, by show x + 1 ≤ A 0 0; omega, fun a ha => by rw [← hs2 a ha]; exact zup_other ha, fun t t0 t1 => ?_, fun t u t0 t1 t2 => ?_, fun j j0 j1 => ?_⟩ (by show (A 0 0 - (x + 1)).toNat < (A 0 0 - x).toNat; omega)
    · show 0 ≤ zup M2 79 y x 79 t ∧ zup M2 79 y x 79 t < x + 1
      have t1 : t < x + 1 := t1
      rw [e t t0 t1]
      by_cases q1 : t < y
      · rw [if_pos q1]; have := hso.1 t t0 (by omega); omega
      · rw [if_neg q1]
        by_cases q2 : t = y
        · rw [if_pos q2]; omega
        · rw [if_neg q2]; have := hso.1 (t - 1) (by omega) (by omega); omega
    · show LexP A (zup M2 79 y x 79 t) (zup M2 79 y x 79 u)
      have t2 : u < x + 1 := t2
      rw [e t t0 (by omega), e u (by omega) t2]
      by_cases q1 : t < y
      · rw [if_pos q1]
        by_cases p1 : u < y
        · rw [if_pos p1]; exact hso.2.1 t u t0 t1 (by omega)
        · rw [if_neg p1]
          by_cases p2 : u = y
          · rw [if_pos p2]
            have := low t t0 q1
            have := hso.1 t t0 (by omega)
            unfold LexP; omega
          · rw [if_neg p2]; exact hso.2.1 t (u - 1) t0 (by omega) (by omega)
      · rw [if_neg q1]
        by_cases q2 : t = y
        · rw [if_pos q2, if_neg (by omega), if_neg (by omega)]
          exact Or.inl (hgt (u - 1) (by omega) (by omega))
        · rw [if_neg q2, if_neg (by omega), if_neg (by omega)]
          exact hso.2.1 (t - 1) (u - 1) (by omega) (by omega) (by omega)
    · have j1 : j < x + 1 := j1
      show ∃ t, 0 ≤ t ∧ t < x + 1 ∧ zup M2 79 y x 79 t = j
      by_cases q : j = x
      · exact ⟨y, y0, by omega, by rw [q, zup_at]⟩
      · obtain ⟨t, t0, t1, et⟩ := hso.2.2 j j0 (by omega)
        by_cases q1 : t < y
        · exact ⟨t, t0, by omega, by rw [e t t0 (by omega), if_pos q1]; exact et⟩
        · exact ⟨t + 1, by omega, by omega, by rw [e (t + 1) (by omega) (by omega), if_neg (by omega), if_neg (by omega), show t + 1 - 1 = t by omega]; exact et⟩
  unfold jP_sortByFirstDays_L12
  refine ⟨fun q2 => put (Or.inl q2), fun q2 => ?_⟩
  have ho := hso.1 (y - 1) (by omega) (by omega)
  rw [hlo (y - 1) (by omega), hc2.first (M1 79 (y - 1)) ho.1 (by omega), hc2.first x x0 (by omega)]
  refine ⟨by omega, by omega, by omega, by omega, by omega, by omega, by omega, fun q3 => put (Or.inr q3), fun q3 => ⟨by omega, by omega, by omega, by omega, by omega, ?_⟩⟩
  rintro _ rfl
  refine ⟨by omega, ?_⟩
  rintro _ rfl
  rw [show y + -1 = y - 1 by omega]
  refine hK2 (y - 1, _) ⟨by show 0 ≤ y - 1; omega, by show y - 1 ≤ x; omega, fun a ha => by rw [← hs2 a ha]; exact zup_other ha, fun t t1 => ?_, fun t t0 t1 => ?_, fun t t0 t1 => ?_⟩ (by show (y - 1).toNat < y.toNat; omega)
  · have t1 : t < y - 1 := t1
    show zup M2 79 y (M1 79 (y - 1)) 79 t = M1 79 t
    rw [zup_ne (by omega)]
    exact hlo t (by omega)
  · have t0 : y - 1 < t := t0
    show zup M2 79 y (M1 79 (y - 1)) 79 t = M1 79 (t - 1)
    by_cases e : t = y
    · rw [e, zup_at]
    · rw [zup_ne e]; exact hhi t (by omega) t1
  · have t0 : y - 1 ≤ t := t0
    by_cases e : t = y - 1
    · rw [e]; omega
    · exact hgt t (by omega) t1
theorem behindInLane_ok (hc : CV A M b) (hv : Val B A) {i : Int} (i0 : 0 ≤ i) (i1 : i < A 0 0) {Φ : Int → Prop} (h : ∀ v, (∀ j, 0 ≤ j → j < 32 → (bI v j = true ↔ j < A 0 0 ∧ A 3 i = A 3 j ∧ A 4 i < A 4 j)) → Φ v) : jP_behindInLane b i M Φ := by
  have hn := hv.n
  unfold jP_behindInLane
  refine zfor2i (fun a x => ∀ j, 0 ≤ j → j < 32 → (bI a j = true ↔ j < x ∧ A 3 i = A 3 j ∧ A 4 i < A 4 j)) (n := A 0 0) hn.1 (fun j j0 j1 => by rw [bI_0]; exact ⟨fun z => (by cases z), fun z => (by omega)⟩) (fun K a hI => ?_) (fun K a x x0 x1 hI hK => ?_)
  · show jP_behindInLane_L5 b i K Φ M a (A 0 0)
    unfold jP_behindInLane_L5
    rw [hc.n]
    exact ⟨fun _ => h a hI, fun q => absurd (Int.le_refl _) q⟩
  · show jP_behindInLane_L5 b i K Φ M a x
    have c1_x := hc.num x (by omega) (by omega)
    have c2_x := hc.lane x (by omega) (by omega)
    have c3_x := hc.first x (by omega) (by omega)
    have c4_x := hc.days x (by omega) (by omega)
    have v1_x := hv.num x (by omega) (by omega)
    have v2_x := hv.lane x (by omega) (by omega)
    have v3_x := hv.day x (by omega) (by omega)
    have c1_i := hc.num i (by omega) (by omega)
    have c2_i := hc.lane i (by omega) (by omega)
    have c3_i := hc.first i (by omega) (by omega)
    have c4_i := hc.days i (by omega) (by omega)
    have v1_i := hv.num i (by omega) (by omega)
    have v2_i := hv.lane i (by omega) (by omega)
    have v3_i := hv.day i (by omega) (by omega)
    have nx : ¬ (A 3 i = A 3 x ∧ A 4 i < A 4 x) → K (a, x + 1) := fun q => hK a (fun j j0 j1 => (hI j j0 j1).trans ⟨fun z => ⟨by omega, z.2⟩, fun z => ⟨by
      rcases Int.lt_or_le j x with p | p
      · exact p
      · have e : j = x := by omega
        subst e
        exact absurd z.2 q, z.2⟩⟩)
    unfold jP_behindInLane_L5
    rw [hc.n, c2_x, c2_i, c3_x, c3_i]
    refine ⟨fun q => by omega, fun q => ⟨by omega, by omega, by omega, by omega, fun e => ⟨by omega, fun v hv => hv ▸ nx (fun z => e z.1.symm)⟩, fun e => ⟨by omega, by omega, by omega, by omega, fun e2 => ⟨by omega, fun v hv => hv ▸ nx (fun z => by omega)⟩, fun e2 => ?_⟩⟩⟩
    rintro _ rfl
    refine ⟨by omega, ?_⟩
    rintro _ rfl
    refine hK _ (fun j j0 j1 => ?_)
    rw [bI_or, Bool.or_eq_true, hI j j0 j1, bI_1 (by omega) ⟨j0, j1⟩, decide_eq_true_iff]
    constructor
    · rintro (z | z)
      · exact ⟨by omega, z.2⟩
      · subst z; exact ⟨by omega, e.symm, by omega⟩
    · rintro ⟨z1, z2⟩
      by_cases p : j = x
      · exact Or.inr p
      · exact Or.inl ⟨by omega, z2⟩
theorem read_ok (hc : CV A M b) (hv : Val B A) (hb : zCh b) (h : ∀ M', smP M M' → SortP A (M' 79) (A 0 0) → PushedP A M' → Φ M') : jP_read b M Φ := by
  have hn := hv.n
  have ha := hv.a
  unfold jP_read
  refine sort_ok hc hv hb (fun M0 hs0 hso => ?_)
  have sm0 : smP M M0 := fun a a1 a2 a3 => hs0 a a1
  refine zwh_run (fun s => 0 ≤ s.1 ∧ s.1 ≤ A 0 0 ∧ smP M s.2 ∧ s.2 79 = M0 79 ∧ ∀ i, 0 ≤ i → i < s.1 → ∀ j, 0 ≤ j → j < 32 → (bI (s.2 80 i) j = true ↔ j < A 0 0 ∧ A 3 i = A 3 j ∧ A 4 i < A 4 j)) (fun s => (A 0 0 - s.1).toNat) ?_ (0, M0) ⟨Int.le_refl 0, hn.1, sm0, rfl, fun i i0 i1 => by have i1 : i < 0 := i1; omega⟩
  rintro K ⟨x, M1⟩ ⟨x0, x1, hs, ho, hbits⟩ hK
  have x0 : 0 ≤ x := x0
  have x1 : x ≤ A 0 0 := x1
  have hs : smP M M1 := hs
  have ho : M1 79 = M0 79 := ho
  have hbits : ∀ i, 0 ≤ i → i < x → ∀ j, 0 ≤ j → j < 32 → (bI (M1 80 i) j = true ↔ j < A 0 0 ∧ A 3 i = A 3 j ∧ A 4 i < A 4 j) := hbits
  have hc1 := hs.cv hb hc
  show jP_read_L7 b K Φ x M1
  unfold jP_read_L7
  rw [hc1.n]
  refine ⟨fun q => ?_, fun q => behindInLane_ok hc1 hv x0 (by omega) (fun v hvb => ⟨by omega, by omega, ?_⟩)⟩
  · have ex : x = A 0 0 := by omega
    subst ex
    refine zwh_run (fun s => 0 ≤ s.1 ∧ s.1 ≤ A 6 0 ∧ smP M s.2 ∧ s.2 79 = M0 79 ∧ ∀ i, 0 ≤ i → i < A 0 0 → ∀ j, 0 ≤ j → j < A 0 0 → (bI (s.2 80 i) j = true ↔ (A 3 i = A 3 j ∧ A 4 i < A 4 j) ∨ ∃ k, 0 ≤ k ∧ k < s.1 ∧ A 9 k = i ∧ A 10 k = j ∧ lateA A k = 0)) (fun s => (A 6 0 - s.1).toNat) ?_ (0, M1) ⟨Int.le_refl 0, ha.1, hs, ho, fun i i0 i1 j j0 j1 => (hbits i i0 i1 j j0 (by omega)).trans ⟨fun z => Or.inl z.2, fun z => ?_⟩⟩
    · rintro K2 ⟨y, M2⟩ ⟨y0, y1, hs2, ho2, hb2⟩ hK2
      have y0 : 0 ≤ y := y0
      have y1 : y ≤ A 6 0 := y1
      have hs2 : smP M M2 := hs2
      have ho2 : M2 79 = M0 79 := ho2
      have hb2 : ∀ i, 0 ≤ i → i < A 0 0 → ∀ j, 0 ≤ j → j < A 0 0 → (bI (M2 80 i) j = true ↔ (A 3 i = A 3 j ∧ A 4 i < A 4 j) ∨ ∃ k, 0 ≤ k ∧ k < y ∧ A 9 k = i ∧ A 10 k = j ∧ lateA A k = 0) := hb2
      have hc2 := hs2.cv hb hc
      show jP_read_L35 b K2 Φ y M2
      unfold jP_read_L35
      rw [hc2.a]
      refine ⟨fun q2 => ?_, fun q2 => lateBy_ok hc2 hv y0 (by omega) ⟨fun q3 => ⟨by omega, ?_⟩, fun q3 => ?_⟩⟩
      · have ey : y = A 6 0 := by omega
        subst ey
        exact h M2 hs2 (by have e : M2 79 = M0 79 := ho2; rw [e]; exact hso) (fun i j i0 i1 j0 j1 => hb2 i i0 i1 j j0 j1)
      · rintro _ rfl
        refine hK2 (y + 1, M2) ⟨by show 0 ≤ y + 1; omega, by show y + 1 ≤ A 6 0; omega, hs2, ho2, fun i i0 i1 j j0 j1 => (hb2 i i0 i1 j j0 j1).trans ?_⟩ (by show (A 6 0 - (y + 1)).toNat < (A 6 0 - y).toNat; omega)
        constructor
        · rintro (z | ⟨k, k0, k1, z⟩)
          · exact Or.inl z
          · exact Or.inr ⟨k, k0, by show k < y + 1; omega, z⟩
        · rintro (z | ⟨k, k0, k1, z⟩)
          · exact Or.inl z
          · have k1 : k < y + 1 := k1
            by_cases e : k = y
            · subst e; exact absurd z.2.2 q3
            · exact Or.inr ⟨k, k0, by omega, z⟩
      · have f1 := hv.from y y0 (by omega)
        have t1 := hv.to y y0 (by omega)
        rw [hc2.from y y0 (by omega), hc2.to y y0 (by omega)]
        refine ⟨by omega, by omega, by omega, by omega, by omega, by omega, by omega, by omega, ?_⟩
        rintro _ rfl
        refine ⟨by omega, ?_⟩
        rintro _ rfl
        refine hK2 (y + 1, zup M2 80 (A 9 y) (zor (M2 80 (A 9 y)) (zshl 1 (A 10 y)))) ⟨by show 0 ≤ y + 1; omega, by show y + 1 ≤ A 6 0; omega, fun a a1 a2 a3 => by rw [← hs2 a a1 a2 a3]; exact zup_other a2, (zup_other (M := M2) (i := 80) (k := A 9 y) (x := zor (M2 80 (A 9 y)) (zshl 1 (A 10 y))) (j := 79) (by decide)).trans ho2, fun i i0 i1 j j0 j1 => ?_⟩ (by show (A 6 0 - (y + 1)).toNat < (A 6 0 - y).toNat; omega)
        show bI (zup M2 80 (A 9 y) (zor (M2 80 (A 9 y)) (zshl 1 (A 10 y))) 80 i) j = true ↔ (A 3 i = A 3 j ∧ A 4 i < A 4 j) ∨ ∃ k, 0 ≤ k ∧ k < y + 1 ∧ A 9 k = i ∧ A 10 k = j ∧ lateA A k = 0
        have h2 := hb2 i i0 i1 j j0 j1
        by_cases e : i = A 9 y
        · subst e
          rw [zup_at, bI_or, Bool.or_eq_true, h2, bI_1 (by omega) (by omega), decide_eq_true_iff]
          constructor
          · rintro ((z | ⟨k, k0, k1, z⟩) | z)
            · exact Or.inl z
            · exact Or.inr ⟨k, k0, by omega, z⟩
            · exact Or.inr ⟨y, y0, by omega, rfl, z.symm, q3⟩
          · rintro (z | ⟨k, k0, k1, z⟩)
            · exact Or.inl (Or.inl z)
            · by_cases e2 : k = y
              · subst e2; exact Or.inr z.2.1.symm
              · exact Or.inl (Or.inr ⟨k, k0, by omega, z⟩)
        · rw [zup_ne e, h2]
          constructor
          · rintro (z | ⟨k, k0, k1, z⟩)
            · exact Or.inl z
            · exact Or.inr ⟨k, k0, by omega, z⟩
          · rintro (z | ⟨k, k0, k1, z⟩)
            · exact Or.inl z
            · by_cases e2 : k = y
              · subst e2; exact absurd z.1.symm e
              · exact Or.inr ⟨k, k0, by omega, z⟩
    · rcases z with z | ⟨k, k0, k1, _⟩
      · exact ⟨j1, z⟩
      · have k1 : k < 0 := k1
        omega
  · rintro _ rfl
    refine ⟨by omega, ?_⟩
    rintro _ rfl
    refine hK (x + 1, zup M1 80 x v) ⟨by show 0 ≤ x + 1; omega, by show x + 1 ≤ A 0 0; omega, fun a a1 a2 a3 => by rw [← hs a a1 a2 a3]; exact zup_other a2, (zup_other (M := M1) (i := 80) (k := x) (x := v) (j := 79) (by decide)).trans ho, fun i i0 i1 j j0 j1 => ?_⟩ (by show (A 0 0 - (x + 1)).toNat < (A 0 0 - x).toNat; omega)
    show bI (zup M1 80 x v 80 i) j = true ↔ _
    have i1 : i < x + 1 := i1
    by_cases e : i = x
    · subst e; rw [zup_at]; exact hvb j j0 j1
    · rw [zup_ne e]; exact hbits i i0 (by omega) j j0 j1
theorem isPushed_ok (hv : Val B A) (hp : PushedP A M) {i j : Int} (i0 : 0 ≤ i) (i1 : i < A 0 0) (j0 : 0 ≤ j) (j1 : j < A 0 0) {Φ : Int → Prop} (ht : pushP A j i → Φ 1) (hf : ¬ pushP A j i → Φ 0) : jP_isPushed i j M Φ := by
  have hn := hv.n
  unfold jP_isPushed
  refine ⟨by omega, by omega, fun q => hf (fun z => q ((zbit_1 (by omega)).mpr ((hp j i j0 j1 i0 i1).mpr z))), fun q => ht ((hp j i j0 j1 i0 i1).mp ((zbit_1 (by omega)).mp q))⟩
theorem mxI_char {f : Int → Int} {n g : Int} (hn : 0 ≤ n) (h0 : 0 ≤ g) (h1 : ∀ j, 0 ≤ j → j < n → f j ≤ g) (h2 : g = 0 ∨ ∃ j, 0 ≤ j ∧ j < n ∧ g = f j) : g = mxI f n := by
  have a := mxI_le (f := f) (n := n) h0 h1
  rcases h2 with e | ⟨j, j0, j1, e⟩
  · have := mxI_nn f n; omega
  · have := mxI_ub (f := f) j0 j1; omega
noncomputable def earF (A : zA) (i k : Int) : Int := by classical exact if pushP A k i then endA A k else 0
noncomputable def earA (A : zA) (i : Int) : Int := mxI (earF A i) (A 0 0)
theorem earF_t {i k : Int} (h : pushP A k i) : earF A i k = endA A k := by unfold earF; rw [if_pos h]
theorem earF_f {i k : Int} (h : ¬ pushP A k i) : earF A i k = 0 := by unfold earF; rw [if_neg h]
theorem ear_rng (hv : Val B A) {i : Int} (i0 : 0 ≤ i) (i1 : i < A 0 0) : 0 ≤ earA A i ∧ earA A i ≤ A 4 i := by
  have di := hv.day i i0 i1
  refine ⟨mxI_nn _ _, mxI_le (by omega) (fun k k0 k1 => ?_)⟩
  by_cases h : pushP A k i
  · rw [earF_t h]; exact push_end hv k0 k1 i0 i1 h
  · rw [earF_f h]; omega
theorem earliest_ok (hc : CV A M b) (hv : Val B A) (hp : PushedP A M) {i : Int} (i0 : 0 ≤ i) (i1 : i < A 0 0) {Φ : Int → Prop} (h : Φ (earA A i)) : jP_earliest b i M Φ := by
  have hn := hv.n
  unfold jP_earliest
  refine zfor2 (fun x => mxI (earF A i) x) (n := A 0 0) hn.1 rfl (fun K => ?_) (fun K x x0 x1 hK => ?_)
  · show jP_earliest_L5 b i K Φ M (earA A i) (A 0 0)
    unfold jP_earliest_L5
    rw [hc.n]
    exact ⟨fun _ => h, fun q => absurd (Int.le_refl _) q⟩
  · show jP_earliest_L5 b i K Φ M (mxI (earF A i) x) x
    unfold jP_earliest_L5
    rw [hc.n]
    rw [mxI_s _ x0] at hK
    have nn := mxI_nn (earF A i) x
    refine ⟨fun q => by omega, fun q => isPushed_ok hv hp i0 i1 x0 x1 (fun p => ⟨fun z => by omega, fun _ => endOf_ok hc hv x0 x1 ?_⟩) (fun p => ⟨fun _ => ⟨by omega, ?_⟩, fun z => absurd rfl z⟩)⟩
    · rintro _ rfl
      refine ⟨by omega, ?_⟩
      rintro _ rfl
      rw [earF_t p] at hK
      exact hK
    · rintro _ rfl
      rw [earF_f p, show max (mxI (earF A i) x) 0 = mxI (earF A i) x by omega] at hK
      exact hK
end RP

