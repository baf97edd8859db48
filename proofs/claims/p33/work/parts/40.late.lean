/-! the latest first days, the longest row; the class's side -/
def LaT (A : zA) (g : Int) (o D : Int → Int) (x : Int) : Prop := (∀ t, x ≤ t → t < A 0 0 → D (o t) + A 5 (o t) ≤ g ∧ A 4 (o t) ≤ D (o t) ∧ (D (o t) + A 5 (o t) = g ∨ ∃ u, t < u ∧ u < A 0 0 ∧ pushP A (o t) (o u) ∧ D (o t) + A 5 (o t) = D (o u))) ∧ ∀ t u, x ≤ t → t < u → u < A 0 0 → pushP A (o t) (o u) → D (o t) + A 5 (o t) ≤ D (o u)
def RoT (A : zA) (o D : Int → Int) (x : Int) : Prop := (∀ t, 0 ≤ t → t < x → A 5 (o t) ≤ D (o t) ∧ D (o t) ≤ 30 + 30 * t ∧ (D (o t) = A 5 (o t) ∨ ∃ u, 0 ≤ u ∧ u < t ∧ pushP A (o u) (o t) ∧ D (o t) = D (o u) + A 5 (o t))) ∧ ∀ u t, 0 ≤ u → u < t → t < x → pushP A (o u) (o t) → D (o u) + A 5 (o t) ≤ D (o t)
section RQ
variable {A : zA} {M : zM} {b : Nat} {B : Int}
theorem findLatest_ok (hc : CV A M b) (hv : Val B A) (hb : zCh b) (ho : SortP A (M 79) (A 0 0)) (hp : PushedP A M) {Φ : zM → Prop} (h : ∀ M', smS M M' → LateP A (gEnd A) (M' 81) → Φ M') : jP_findLatest b M Φ := by
  have hn := hv.n
  have hg := gEnd_rng hv
  unfold jP_findLatest
  refine greatestEnd_ok hc hv ?_
  rw [hc.n]
  refine ⟨by omega, ?_⟩
  rintro _ rfl
  refine zwh_run (fun s => -1 ≤ s.1 ∧ s.1 < A 0 0 ∧ smS M s.2 ∧ LaT A (gEnd A) (M 79) (s.2 81) (s.1 + 1)) (fun s => (s.1 + 1).toNat) ?_ (A 0 0 - 1, M) ⟨by show -1 ≤ A 0 0 - 1; omega, by show A 0 0 - 1 < A 0 0; omega, fun _ _ => rfl, ⟨fun t t0 t1 => by have t0 : A 0 0 - 1 + 1 ≤ t := t0; omega, fun t u t0 tu u1 => by have t0 : A 0 0 - 1 + 1 ≤ t := t0; omega⟩⟩
  rintro K ⟨x, M1⟩ ⟨x0, x1, hs, hS⟩ hK
  have x0 : -1 ≤ x := x0
  have x1 : x < A 0 0 := x1
  have hs : smS M M1 := hs
  have hS : LaT A (gEnd A) (M 79) (M1 81) (x + 1) := hS
  have hc1 := hs.cv hb hc
  show jP_findLatest_L12 b K Φ (gEnd A) x M1
  unfold jP_findLatest_L12
  rw [hs 79 (by decide)]
  refine ⟨fun q => ?_, fun q => ⟨by omega, by omega, ?_⟩⟩
  · have ex : x = -1 := by omega
    subst ex
    refine h M1 hs ⟨fun j j0 j1 => ?_, fun i j i0 i1 j0 j1 hij => ?_⟩
    · obtain ⟨t, t0, t1, e⟩ := ho.2.2 j j0 j1
      obtain ⟨s1, s2, s3⟩ := hS.1 t (by omega) t1
      rw [e] at s1 s2 s3
      refine ⟨s1, s2, ?_⟩
      rcases s3 with z | ⟨u, u0, u1, u2, u3⟩
      · exact Or.inl z
      · have := ho.1 u (by omega) u1
        exact Or.inr ⟨_, this.1, this.2, u2, u3⟩
    · obtain ⟨t, t0, t1, e⟩ := ho.2.2 j j0 j1
      obtain ⟨u, u0, u1, e2⟩ := ho.2.2 i i0 i1
      rw [← e, ← e2] at hij ⊢
      have lt := push_lt hv (ho.1 u u0 u1).1 (ho.1 u u0 u1).2 (ho.1 t t0 t1).1 (ho.1 t t0 t1).2 hij
      exact hS.2 u t (by omega) (sort_lt ho u0 u1 t0 t1 lt) t1 hij
  rintro _ rfl
  refine ⟨by omega, ?_⟩
  rintro _ rfl
  have oi := ho.1 x (by omega) x1
  have di := hv.day _ oi.1 oi.2
  have gi : A 4 (M 79 x) + A 5 (M 79 x) ≤ gEnd A := mxI_ub (f := endA A) oi.1 oi.2
  refine zfor2i (fun v y => A 4 (M 79 x) + A 5 (M 79 x) ≤ v ∧ v ≤ gEnd A ∧ (∀ u, x < u → u < y → pushP A (M 79 x) (M 79 u) → v ≤ M1 81 (M 79 u)) ∧ (v = gEnd A ∨ ∃ u, x < u ∧ u < y ∧ pushP A (M 79 x) (M 79 u) ∧ v = M1 81 (M 79 u))) (n := A 0 0) (by omega) ⟨gi, Int.le_refl _, fun u u0 u1 => by omega, Or.inl rfl⟩ (fun K2 v hI => ?_) (fun K2 v y y0 y1 hI hK2 => ?_)
  · show jP_findLatest_L32 b K K2 Φ (gEnd A) x (M 79 x) M1 v (A 0 0)
    obtain ⟨v0, v1, v2, v3⟩ := hI
    unfold jP_findLatest_L32
    rw [hc1.n, hc1.days _ oi.1 oi.2]
    refine ⟨fun _ => ⟨by omega, by omega, by omega, by omega, by omega, ?_⟩, fun z => absurd (Int.le_refl _) z⟩
    rintro _ rfl
    refine ⟨by omega, ?_⟩
    rintro _ rfl
    have kk : ∀ u, x < u → u < A 0 0 → zup M1 81 (M 79 x) (v - A 5 (M 79 x)) 81 (M 79 u) = M1 81 (M 79 u) := fun u u0 u1 => zup_ne (fun e => by have := sort_inj ho (by omega) u1 (by omega) x1 e; omega)
    refine hK (x + -1, zup M1 81 (M 79 x) (v - A 5 (M 79 x))) ⟨by show -1 ≤ x + -1; omega, by show x + -1 < A 0 0; omega, fun q hq => (zup_other hq).trans (hs q hq), ⟨fun t t0 t1 => ?_, fun t u t0 tu u1 htu => ?_⟩⟩ (by show (x + -1 + 1).toNat < (x + 1).toNat; omega)
    · have t0 : x + -1 + 1 ≤ t := t0
      show zup M1 81 (M 79 x) (v - A 5 (M 79 x)) 81 (M 79 t) + A 5 (M 79 t) ≤ gEnd A ∧ A 4 (M 79 t) ≤ zup M1 81 (M 79 x) (v - A 5 (M 79 x)) 81 (M 79 t) ∧ (zup M1 81 (M 79 x) (v - A 5 (M 79 x)) 81 (M 79 t) + A 5 (M 79 t) = gEnd A ∨ ∃ u, t < u ∧ u < A 0 0 ∧ pushP A (M 79 t) (M 79 u) ∧ zup M1 81 (M 79 x) (v - A 5 (M 79 x)) 81 (M 79 t) + A 5 (M 79 t) = zup M1 81 (M 79 x) (v - A 5 (M 79 x)) 81 (M 79 u))
      by_cases e : t = x
      · subst e
        rw [zup_at]
        refine ⟨by omega, by omega, ?_⟩
        rcases v3 with z | ⟨u, u0, u1, u2, u3⟩
        · exact Or.inl (by omega)
        · exact Or.inr ⟨u, u0, u1, u2, by rw [kk u u0 u1]; omega⟩
      · rw [kk t (by omega) t1]
        obtain ⟨s1, s2, s3⟩ := hS.1 t (by omega) t1
        refine ⟨s1, s2, ?_⟩
        rcases s3 with z | ⟨u, u0, u1, u2, u3⟩
        · exact Or.inl z
        · exact Or.inr ⟨u, u0, u1, u2, by rw [kk u (by omega) u1]; exact u3⟩
    · have t0 : x + -1 + 1 ≤ t := t0
      show zup M1 81 (M 79 x) (v - A 5 (M 79 x)) 81 (M 79 t) + A 5 (M 79 t) ≤ zup M1 81 (M 79 x) (v - A 5 (M 79 x)) 81 (M 79 u)
      rw [kk u (by omega) u1]
      by_cases e : t = x
      · subst e
        rw [zup_at]
        have := v2 u tu u1 htu
        omega
      · rw [kk t (by omega) (by omega)]
        exact hS.2 t u (by omega) tu u1 htu
  · show jP_findLatest_L32 b K K2 Φ (gEnd A) x (M 79 x) M1 v y
    obtain ⟨v0, v1, v2, v3⟩ := hI
    unfold jP_findLatest_L32
    rw [hc1.n, hs 79 (by decide)]
    refine ⟨fun z => by omega, fun _ => ⟨by omega, by omega, ?_⟩⟩
    rintro _ rfl
    have oy := ho.1 y (by omega) y1
    have sy := hS.1 y y0 y1
    refine isPushed_ok hv (hs.pushed hp) oy.1 oy.2 oi.1 oi.2 (fun p => ⟨fun z => absurd z (by decide), fun _ => ⟨by omega, by omega, ?_⟩⟩) (fun p => ⟨fun _ => ⟨by omega, ?_⟩, fun z => absurd rfl z⟩)
    · rintro _ rfl
      refine ⟨by omega, ?_⟩
      rintro _ rfl
      have pe : A 4 (M 79 x) + A 5 (M 79 x) ≤ A 4 (M 79 y) := push_end hv oi.1 oi.2 oy.1 oy.2 p
      refine hK2 _ ⟨by omega, by omega, fun u u0 u1 hu => ?_, ?_⟩
      · by_cases e : u = y
        · rw [e]; omega
        · have := v2 u u0 (by omega) hu; omega
      · by_cases e : M1 81 (M 79 y) ≤ v
        · exact Or.inr ⟨y, by omega, by omega, p, by omega⟩
        · rcases v3 with z | ⟨u, u0, u1, u2, u3⟩
          · exact Or.inl (by omega)
          · exact Or.inr ⟨u, u0, by omega, u2, by omega⟩
    · rintro _ rfl
      refine hK2 _ ⟨v0, v1, fun u u0 u1 hu => ?_, ?_⟩
      · by_cases e : u = y
        · subst e; exact absurd hu p
        · exact v2 u u0 (by omega) hu
      · rcases v3 with z | ⟨u, u0, u1, u2, u3⟩
        · exact Or.inl z
        · exact Or.inr ⟨u, u0, by omega, u2, u3⟩
theorem longestRow_ok (hc : CV A M b) (hv : Val B A) (hb : zCh b) (ho : SortP A (M 79) (A 0 0)) (hp : PushedP A M) {Φ : Int → zM → Prop} (h : ∀ M', smS M M' → RowP A (M' 81) → Φ (mxI (M' 81) (A 0 0)) M') : jP_longestRow b M Φ := by
  have hn := hv.n
  unfold jP_longestRow
  refine zwh_run (fun s => 0 ≤ s.2.1 ∧ s.2.1 ≤ A 0 0 ∧ smS M s.2.2 ∧ RoT A (M 79) (s.2.2 81) s.2.1 ∧ MxT (M 79) (s.2.2 81) s.2.1 s.1) (fun s => (A 0 0 - s.2.1).toNat) ?_ (0, 0, M) ⟨Int.le_refl 0, hn.1, fun _ _ => rfl, ⟨fun t t0 t1 => by have t1 : t < 0 := t1; omega, fun u t u0 ut t1 => by have t1 : t < 0 := t1; omega⟩, Int.le_refl 0, fun t t0 t1 => by have t1 : t < 0 := t1; omega, Or.inl rfl⟩
  rintro K ⟨g, x, M1⟩ ⟨x0, x1, hs, hS, hG⟩ hK
  have x0 : 0 ≤ x := x0
  have x1 : x ≤ A 0 0 := x1
  have hs : smS M M1 := hs
  have hS : RoT A (M 79) (M1 81) x := hS
  have hG : MxT (M 79) (M1 81) x g := hG
  have hc1 := hs.cv hb hc
  show jP_longestRow_L4 b K Φ g x M1
  unfold jP_longestRow_L4
  rw [hc1.n, hs 79 (by decide)]
  refine ⟨fun q => ?_, fun q => ⟨by omega, by omega, ?_⟩⟩
  · have ex : x = A 0 0 := by omega
    subst ex
    have eg := hG.mx hn.1 ho
    rw [eg]
    refine h M1 hs ⟨fun j j0 j1 => ?_, fun i j i0 i1 j0 j1 hij => ?_⟩
    · obtain ⟨t, t0, t1, e⟩ := ho.2.2 j j0 j1
      obtain ⟨s1, s2, s3⟩ := hS.1 t t0 t1
      rw [e] at s1 s2 s3
      refine ⟨s1, by omega, ?_⟩
      rcases s3 with z | ⟨u, u0, u1, u2, u3⟩
      · exact Or.inl z
      · have := ho.1 u u0 (by omega)
        exact Or.inr ⟨_, this.1, this.2, u2, u3⟩
    · obtain ⟨t, t0, t1, e⟩ := ho.2.2 j j0 j1
      obtain ⟨u, u0, u1, e2⟩ := ho.2.2 i i0 i1
      rw [← e, ← e2] at hij ⊢
      have lt := push_lt hv (ho.1 u u0 u1).1 (ho.1 u u0 u1).2 (ho.1 t t0 t1).1 (ho.1 t t0 t1).2 hij
      exact hS.2 u t u0 (sort_lt ho u0 u1 t0 t1 lt) t1 hij
  rintro _ rfl
  have oi := ho.1 x x0 (by omega)
  have di := hv.day _ oi.1 oi.2
  refine zfor2i (fun v y => 0 ≤ v ∧ v ≤ 30 * x ∧ (∀ u, 0 ≤ u → u < y → pushP A (M 79 u) (M 79 x) → M1 81 (M 79 u) ≤ v) ∧ (v = 0 ∨ ∃ u, 0 ≤ u ∧ u < y ∧ pushP A (M 79 u) (M 79 x) ∧ v = M1 81 (M 79 u))) (n := x) x0 ⟨Int.le_refl 0, by omega, fun u u0 u1 => by omega, Or.inl rfl⟩ (fun K2 v hI => ?_) (fun K2 v y y0 y1 hI hK2 => ?_)
  · show jP_longestRow_L26 b K K2 Φ g x (M 79 x) M1 v x
    obtain ⟨v0, v1, v2, v3⟩ := hI
    unfold jP_longestRow_L26
    rw [hc1.days _ oi.1 oi.2]
    refine ⟨fun _ => ⟨by omega, by omega, by omega, by omega, by omega, ?_⟩, fun z => absurd (Int.le_refl _) z⟩
    rintro _ rfl
    refine ⟨by omega, by omega, ?_⟩
    rintro _ rfl
    refine ⟨by omega, ?_⟩
    rintro _ rfl
    have kk : ∀ u, 0 ≤ u → u < x → zup M1 81 (M 79 x) (v + A 5 (M 79 x)) 81 (M 79 u) = M1 81 (M 79 u) := fun u u0 u1 => zup_ne (fun e => by have := sort_inj ho u0 (by omega) x0 (by omega) e; omega)
    refine hK (_, x + 1, zup M1 81 (M 79 x) (v + A 5 (M 79 x))) ⟨by show 0 ≤ x + 1; omega, by show x + 1 ≤ A 0 0; omega, fun q hq => (zup_other hq).trans (hs q hq), ⟨fun t t0 t1 => ?_, fun u t u0 ut t1 hut => ?_⟩, hG.step x0 kk⟩ (by show (A 0 0 - (x + 1)).toNat < (A 0 0 - x).toNat; omega)
    · have t1 : t < x + 1 := t1
      show A 5 (M 79 t) ≤ zup M1 81 (M 79 x) (v + A 5 (M 79 x)) 81 (M 79 t) ∧ zup M1 81 (M 79 x) (v + A 5 (M 79 x)) 81 (M 79 t) ≤ 30 + 30 * t ∧ (zup M1 81 (M 79 x) (v + A 5 (M 79 x)) 81 (M 79 t) = A 5 (M 79 t) ∨ ∃ u, 0 ≤ u ∧ u < t ∧ pushP A (M 79 u) (M 79 t) ∧ zup M1 81 (M 79 x) (v + A 5 (M 79 x)) 81 (M 79 t) = zup M1 81 (M 79 x) (v + A 5 (M 79 x)) 81 (M 79 u) + A 5 (M 79 t))
      by_cases e : t = x
      · subst e
        rw [zup_at]
        refine ⟨by omega, by omega, ?_⟩
        rcases v3 with z | ⟨u, u0, u1, u2, u3⟩
        · exact Or.inl (by omega)
        · exact Or.inr ⟨u, u0, u1, u2, by rw [kk u u0 u1]; omega⟩
      · rw [kk t t0 (by omega)]
        obtain ⟨s1, s2, s3⟩ := hS.1 t t0 (by omega)
        refine ⟨s1, s2, ?_⟩
        rcases s3 with z | ⟨u, u0, u1, u2, u3⟩
        · exact Or.inl z
        · exact Or.inr ⟨u, u0, u1, u2, by rw [kk u u0 (by omega)]; exact u3⟩
    · have t1 : t < x + 1 := t1
      show zup M1 81 (M 79 x) (v + A 5 (M 79 x)) 81 (M 79 u) + A 5 (M 79 t) ≤ zup M1 81 (M 79 x) (v + A 5 (M 79 x)) 81 (M 79 t)
      rw [kk u u0 (by omega)]
      by_cases e : t = x
      · subst e
        rw [zup_at]
        have := v2 u u0 ut hut
        omega
      · rw [kk t (by omega) (by omega)]
        exact hS.2 u t u0 ut (by omega) hut
  · show jP_longestRow_L26 b K K2 Φ g x (M 79 x) M1 v y
    obtain ⟨v0, v1, v2, v3⟩ := hI
    unfold jP_longestRow_L26
    rw [hs 79 (by decide)]
    refine ⟨fun z => by omega, fun _ => ⟨by omega, by omega, ?_⟩⟩
    rintro _ rfl
    have oy := ho.1 y (by omega) (by omega)
    have sy := hS.1 y y0 y1
    have dy := hv.day _ oy.1 oy.2
    refine isPushed_ok hv (hs.pushed hp) oi.1 oi.2 oy.1 oy.2 (fun p => ⟨fun z => absurd z (by decide), fun _ => ⟨by omega, by omega, ?_⟩⟩) (fun p => ⟨fun _ => ⟨by omega, ?_⟩, fun z => absurd rfl z⟩)
    · rintro _ rfl
      refine ⟨by omega, ?_⟩
      rintro _ rfl
      refine hK2 _ ⟨by omega, by omega, fun u u0 u1 hu => ?_, ?_⟩
      · by_cases e : u = y
        · rw [e]; omega
        · have := v2 u u0 (by omega) hu; omega
      · by_cases e : v ≤ M1 81 (M 79 y)
        · exact Or.inr ⟨y, by omega, by omega, p, by omega⟩
        · rcases v3 with z | ⟨u, u0, u1, u2, u3⟩
          · exact Or.inl (by omega)
          · exact Or.inr ⟨u, u0, by omega, u2, by omega⟩
    · rintro _ rfl
      refine hK2 _ ⟨v0, v1, fun u u0 u1 hu => ?_, ?_⟩
      · by_cases e : u = y
        · subst e; exact absurd hu p
        · exact v2 u u0 (by omega) hu
      · rcases v3 with z | ⟨u, u0, u1, u2, u3⟩
        · exact Or.inl z
        · exact Or.inr ⟨u, u0, by omega, u2, u3⟩
end RQ

