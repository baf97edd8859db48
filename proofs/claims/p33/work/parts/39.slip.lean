/-! slipping, the latest first days, the longest row; the class's side -/
def fdA (A : zA) (a d j : Int) : Int := A 4 j + if j = a then d else 0
def SlipP (A : zA) (a d : Int) (D : Int → Int) : Prop := (∀ j, 0 ≤ j → j < A 0 0 → fdA A a d j ≤ D j ∧ D j ≤ 1200 ∧ (D j = fdA A a d j ∨ ∃ i, 0 ≤ i ∧ i < A 0 0 ∧ pushP A i j ∧ D j = D i + A 5 i)) ∧ ∀ i j, 0 ≤ i → i < A 0 0 → 0 ≤ j → j < A 0 0 → pushP A i j → D i + A 5 i ≤ D j
def LateP (A : zA) (g : Int) (D : Int → Int) : Prop := (∀ j, 0 ≤ j → j < A 0 0 → D j + A 5 j ≤ g ∧ A 4 j ≤ D j ∧ (D j + A 5 j = g ∨ ∃ i, 0 ≤ i ∧ i < A 0 0 ∧ pushP A j i ∧ D j + A 5 j = D i)) ∧ ∀ i j, 0 ≤ i → i < A 0 0 → 0 ≤ j → j < A 0 0 → pushP A i j → D i + A 5 i ≤ D j
def RowP (A : zA) (R : Int → Int) : Prop := (∀ j, 0 ≤ j → j < A 0 0 → A 5 j ≤ R j ∧ R j ≤ 1200 ∧ (R j = A 5 j ∨ ∃ i, 0 ≤ i ∧ i < A 0 0 ∧ pushP A i j ∧ R j = R i + A 5 j)) ∧ ∀ i j, 0 ≤ i → i < A 0 0 → 0 ≤ j → j < A 0 0 → pushP A i j → R i + A 5 j ≤ R j
def smS (M M' : zM) : Prop := ∀ q, q ≠ 81 → M' q = M q
theorem smS.cv {A : zA} {b : Nat} {M M' : zM} (h : smS M M') (hb : zCh b) (hc : CV A M b) : CV A M' b := hc.same (fun a a0 a1 => h a (by have := hb.lt; omega))
theorem smS.pushed {A : zA} {M M' : zM} (h : smS M M') (hp : PushedP A M) : PushedP A M' := fun i j i0 i1 j0 j1 => by rw [h 80 (by decide)]; exact hp i j i0 i1 j0 j1
def SlT (A : zA) (a d : Int) (o D : Int → Int) (x : Int) : Prop := (∀ t, 0 ≤ t → t < x → fdA A a d (o t) ≤ D (o t) ∧ D (o t) ≤ 230 + 30 * t ∧ (D (o t) = fdA A a d (o t) ∨ ∃ u, 0 ≤ u ∧ u < t ∧ pushP A (o u) (o t) ∧ D (o t) = D (o u) + A 5 (o u))) ∧ ∀ u t, 0 ≤ u → u < t → t < x → pushP A (o u) (o t) → D (o u) + A 5 (o u) ≤ D (o t)
def MxT (o E : Int → Int) (x g : Int) : Prop := 0 ≤ g ∧ (∀ t, 0 ≤ t → t < x → E (o t) ≤ g) ∧ (g = 0 ∨ ∃ t, 0 ≤ t ∧ t < x ∧ g = E (o t))
theorem MxT.mx {A : zA} {o E : Int → Int} {n g : Int} (hn : 0 ≤ n) (ho : SortP A o n) (h : MxT o E n g) : g = mxI E n := by
  refine mxI_char hn h.1 (fun j j0 j1 => ?_) ?_
  · obtain ⟨t, t0, t1, e⟩ := ho.2.2 j j0 j1
    rw [← e]; exact h.2.1 t t0 t1
  · rcases h.2.2 with e | ⟨t, t0, t1, e⟩
    · exact Or.inl e
    · have := ho.1 t t0 t1; exact Or.inr ⟨o t, this.1, this.2, e⟩
theorem MxT.step {o E E' : Int → Int} {x g : Int} (x0 : 0 ≤ x) (h : MxT o E x g) (he : ∀ t, 0 ≤ t → t < x → E' (o t) = E (o t)) : MxT o E' (x + 1) (max g (E' (o x))) := by
  obtain ⟨h0, h1, h2⟩ := h
  refine ⟨by omega, fun t t0 t1 => ?_, ?_⟩
  · by_cases e : t = x
    · rw [e]; omega
    · have := h1 t t0 (by omega); rw [he t t0 (by omega)]; omega
  · by_cases q : g ≤ E' (o x)
    · exact Or.inr ⟨x, x0, by omega, by omega⟩
    · rcases h2 with e | ⟨t, t0, t1, e⟩
      · exact Or.inl (by omega)
      · exact Or.inr ⟨t, t0, by omega, by rw [he t t0 t1]; omega⟩
section RQ
variable {A : zA} {M : zM} {b : Nat} {B : Int}
theorem slipFrom_ok (hc : CV A M b) (hv : Val B A) (hb : zCh b) (ho : SortP A (M 79) (A 0 0)) (hp : PushedP A M) {a d : Int} (d0 : 0 ≤ d) (d1 : d ≤ 30) {Φ : Int → zM → Prop} (h : ∀ M', smS M M' → SlipP A a d (M' 81) → Φ (mxI (fun j => M' 81 j + A 5 j) (A 0 0)) M') : jP_slipFrom b a d M Φ := by
  have hn := hv.n
  unfold jP_slipFrom
  refine zwh_run (fun s => 0 ≤ s.2.1 ∧ s.2.1 ≤ A 0 0 ∧ smS M s.2.2 ∧ SlT A a d (M 79) (s.2.2 81) s.2.1 ∧ MxT (M 79) (fun j => s.2.2 81 j + A 5 j) s.2.1 s.1) (fun s => (A 0 0 - s.2.1).toNat) ?_ (0, 0, M) ⟨Int.le_refl 0, hn.1, fun _ _ => rfl, ⟨fun t t0 t1 => by have t1 : t < 0 := t1; omega, fun u t u0 ut t1 => by have t1 : t < 0 := t1; omega⟩, Int.le_refl 0, fun t t0 t1 => by have t1 : t < 0 := t1; omega, Or.inl rfl⟩
  rintro K ⟨g, x, M1⟩ ⟨x0, x1, hs, hS, hG⟩ hK
  have x0 : 0 ≤ x := x0
  have x1 : x ≤ A 0 0 := x1
  have hs : smS M M1 := hs
  have hS : SlT A a d (M 79) (M1 81) x := hS
  have hG : MxT (M 79) (fun j => M1 81 j + A 5 j) x g := hG
  have hc1 := hs.cv hb hc
  show jP_slipFrom_L6 b a d K Φ g x M1
  unfold jP_slipFrom_L6
  rw [hc1.n]
  refine ⟨fun q => ?_, fun q => ?_⟩
  · have ex : x = A 0 0 := by omega
    subst ex
    have eg := hG.mx hn.1 ho
    rw [eg]
    refine h M1 hs ⟨fun j j0 j1 => ?_, fun i j i0 i1 j0 j1 hij => ?_⟩
    · obtain ⟨t, t0, t1, e⟩ := ho.2.2 j j0 j1
      obtain ⟨s1, s2, s3⟩ := hS.1 t t0 t1
      rw [e] at s1 s2 s3
      refine ⟨s1, by omega, ?_⟩
      rcases s3 with z | ⟨u, u0, u1, u2, u3⟩
      · exact Or.inl z
      · have := ho.1 u u0 (by omega)
        exact Or.inr ⟨_, this.1, this.2, u2, u3⟩
    · obtain ⟨t, t0, t1, e⟩ := ho.2.2 j j0 j1
      obtain ⟨u, u0, u1, e2⟩ := ho.2.2 i i0 i1
      rw [← e, ← e2] at hij ⊢
      have lt := push_lt hv (ho.1 u u0 u1).1 (ho.1 u u0 u1).2 (ho.1 t t0 t1).1 (ho.1 t t0 t1).2 hij
      exact hS.2 u t u0 (sort_lt ho u0 u1 t0 t1 lt) t1 hij
  have oi := ho.1 x x0 (by omega)
  have body : ∀ w, w = A 4 (M 79 x) + (if M 79 x = a then d else 0) → ∀ M6, M6 = zup M1 81 (M 79 x) w → zwh (fun K2 s => jP_slipFrom_L53 b a d K K2 Φ g x (M 79 x) (s.1) (s.2)) (0, M6) := by
    rintro w hw M6 rfl
    have hw : w = fdA A a d (M 79 x) := hw
    have di := hv.day _ oi.1 oi.2
    have wb : 0 ≤ w ∧ w ≤ 230 := by rw [hw]; unfold fdA; by_cases e : M 79 x = a <;> simp only [e, if_true, if_false] <;> (try rw [e] at di) <;> omega
    refine zwh_run (fun s => 0 ≤ s.1 ∧ s.1 ≤ x ∧ smS M s.2 ∧ (∀ k, k ≠ M 79 x → s.2 81 k = M1 81 k) ∧ (w ≤ s.2 81 (M 79 x) ∧ s.2 81 (M 79 x) ≤ 230 + 30 * x) ∧ (∀ u, 0 ≤ u → u < s.1 → pushP A (M 79 u) (M 79 x) → M1 81 (M 79 u) + A 5 (M 79 u) ≤ s.2 81 (M 79 x)) ∧ (s.2 81 (M 79 x) = w ∨ ∃ u, 0 ≤ u ∧ u < s.1 ∧ pushP A (M 79 u) (M 79 x) ∧ s.2 81 (M 79 x) = M1 81 (M 79 u) + A 5 (M 79 u))) (fun s => (x - s.1).toNat) ?_ (0, _) ⟨Int.le_refl 0, x0, fun q hq => (zup_other hq).trans (hs q hq), fun k hk => zup_ne hk, by show w ≤ zup M1 81 (M 79 x) w 81 (M 79 x) ∧ zup M1 81 (M 79 x) w 81 (M 79 x) ≤ 230 + 30 * x; rw [zup_at]; omega, fun u u0 u1 => by have u1 : u < 0 := u1; omega, Or.inl (zup_at _ _ _ _)⟩
    rintro K2 ⟨y, M2⟩ ⟨y0, y1, hs2, hk, hwb, hge, hat⟩ hK2
    have y0 : 0 ≤ y := y0
    have y1 : y ≤ x := y1
    have hs2 : smS M M2 := hs2
    have hk : ∀ k, k ≠ M 79 x → M2 81 k = M1 81 k := hk
    have hwb : w ≤ M2 81 (M 79 x) ∧ M2 81 (M 79 x) ≤ 230 + 30 * x := hwb
    have hge : ∀ u, 0 ≤ u → u < y → pushP A (M 79 u) (M 79 x) → M1 81 (M 79 u) + A 5 (M 79 u) ≤ M2 81 (M 79 x) := hge
    have hat : M2 81 (M 79 x) = w ∨ ∃ u, 0 ≤ u ∧ u < y ∧ pushP A (M 79 u) (M 79 x) ∧ M2 81 (M 79 x) = M1 81 (M 79 u) + A 5 (M 79 u) := hat
    have hc2 := hs2.cv hb hc
    have ok : ∀ u, 0 ≤ u → u < x → M 79 u ≠ M 79 x := fun u u0 u1 e => by have := sort_inj ho u0 (by omega) x0 (by omega) e; omega
    show jP_slipFrom_L53 b a d K K2 Φ g x (M 79 x) y M2
    unfold jP_slipFrom_L53
    rw [hc2.days _ oi.1 oi.2, hs2 79 (by decide)]
    refine ⟨fun q2 => ⟨by omega, by omega, by omega, by omega, by omega, ?_⟩, fun q2 => ⟨by omega, by omega, ?_⟩⟩
    · rintro _ rfl
      refine ⟨by omega, ?_⟩
      rintro _ rfl
      have ey : y = x := by omega
      subst ey
      have hk' : ∀ t, 0 ≤ t → t < y → M2 81 (M 79 t) = M1 81 (M 79 t) := fun t t0 t1 => hk _ (ok t t0 t1)
      refine hK (_, y + 1, M2) ⟨by show 0 ≤ y + 1; omega, by show y + 1 ≤ A 0 0; omega, hs2, ⟨fun t t0 t1 => ?_, fun u t u0 ut t1 hut => ?_⟩, hG.step (E' := fun j => M2 81 j + A 5 j) y0 (fun t t0 t1 => by show M2 81 (M 79 t) + A 5 (M 79 t) = M1 81 (M 79 t) + A 5 (M 79 t); rw [hk' t t0 t1])⟩ (by show (A 0 0 - (y + 1)).toNat < (A 0 0 - y).toNat; omega)
      · have t1 : t < y + 1 := t1
        show fdA A a d (M 79 t) ≤ M2 81 (M 79 t) ∧ M2 81 (M 79 t) ≤ 230 + 30 * t ∧ (M2 81 (M 79 t) = fdA A a d (M 79 t) ∨ ∃ u, 0 ≤ u ∧ u < t ∧ pushP A (M 79 u) (M 79 t) ∧ M2 81 (M 79 t) = M2 81 (M 79 u) + A 5 (M 79 u))
        by_cases e : t = y
        · subst e
          rw [← hw]
          refine ⟨hwb.1, hwb.2, ?_⟩
          rcases hat with z | ⟨u, u0, u1, u2, u3⟩
          · exact Or.inl z
          · exact Or.inr ⟨u, u0, u1, u2, by rw [hk' u u0 u1]; exact u3⟩
        · obtain ⟨s1, s2, s3⟩ := hS.1 t t0 (by omega)
          rw [hk' t t0 (by omega)]
          refine ⟨s1, s2, ?_⟩
          rcases s3 with z | ⟨u, u0, u1, u2, u3⟩
          · exact Or.inl z
          · exact Or.inr ⟨u, u0, u1, u2, by rw [hk' u u0 (by omega)]; exact u3⟩
      · have t1 : t < y + 1 := t1
        show M2 81 (M 79 u) + A 5 (M 79 u) ≤ M2 81 (M 79 t)
        rw [hk' u u0 (by omega)]
        by_cases e : t = y
        · subst e; exact hge u u0 ut hut
        · rw [hk' t (by omega) (by omega)]; exact hS.2 u t u0 ut (by omega) hut
    · rintro _ rfl
      have oy := ho.1 y y0 (by omega)
      have dy := hv.day _ oy.1 oy.2
      have sy := hS.1 y y0 (by omega)
      have fy : 0 ≤ fdA A a d (M 79 y) := by unfold fdA; by_cases e : M 79 y = a <;> simp only [e, if_true, if_false] <;> (try rw [e] at dy) <;> omega
      have ky := hk _ (ok y y0 (by omega))
      refine isPushed_ok hv (hs2.pushed hp) oi.1 oi.2 oy.1 oy.2 (fun p => ⟨fun z => absurd z (by decide), fun _ => ?_⟩) (fun p => ⟨fun _ => ⟨by omega, ?_⟩, fun z => absurd rfl z⟩)
      · rw [hc2.days _ oy.1 oy.2, ky]
        refine ⟨by omega, by omega, by omega, by omega, by omega, by omega, by omega, by omega, by omega, ?_⟩
        rintro _ rfl
        refine ⟨by omega, ?_⟩
        rintro _ rfl
        refine hK2 (y + 1, zup M2 81 (M 79 x) (max (M2 81 (M 79 x)) (M1 81 (M 79 y) + A 5 (M 79 y)))) ⟨by show 0 ≤ y + 1; omega, by show y + 1 ≤ x; omega, fun q hq => (zup_other hq).trans (hs2 q hq), fun k hk2 => (zup_ne hk2).trans (hk k hk2), ?_, fun u u0 u1 hu => ?_, ?_⟩ (by show (x - (y + 1)).toNat < (x - y).toNat; omega)
        · show w ≤ zup M2 81 (M 79 x) (max (M2 81 (M 79 x)) (M1 81 (M 79 y) + A 5 (M 79 y))) 81 (M 79 x) ∧ zup M2 81 (M 79 x) (max (M2 81 (M 79 x)) (M1 81 (M 79 y) + A 5 (M 79 y))) 81 (M 79 x) ≤ 230 + 30 * x
          rw [zup_at]; omega
        · have u1 : u < y + 1 := u1
          show M1 81 (M 79 u) + A 5 (M 79 u) ≤ zup M2 81 (M 79 x) (max (M2 81 (M 79 x)) (M1 81 (M 79 y) + A 5 (M 79 y))) 81 (M 79 x)
          rw [zup_at]
          by_cases e : u = y
          · rw [e]; omega
          · have := hge u u0 (by omega) hu; omega
        · show zup M2 81 (M 79 x) (max (M2 81 (M 79 x)) (M1 81 (M 79 y) + A 5 (M 79 y))) 81 (M 79 x) = w ∨ ∃ u, 0 ≤ u ∧ u < y + 1 ∧ pushP A (M 79 u) (M 79 x) ∧ zup M2 81 (M 79 x) (max (M2 81 (M 79 x)) (M1 81 (M 79 y) + A 5 (M 79 y))) 81 (M 79 x) = M1 81 (M 79 u) + A 5 (M 79 u)
          rw [zup_at]
          by_cases e : M2 81 (M 79 x) ≤ M1 81 (M 79 y) + A 5 (M 79 y)
          · exact Or.inr ⟨y, y0, by omega, p, by omega⟩
          · rcases hat with z | ⟨u, u0, u1, u2, u3⟩
            · exact Or.inl (by omega)
            · exact Or.inr ⟨u, u0, by omega, u2, by omega⟩
      · rintro _ rfl
        refine hK2 (y + 1, M2) ⟨by show 0 ≤ y + 1; omega, by show y + 1 ≤ x; omega, hs2, hk, hwb, fun u u0 u1 hu => ?_, ?_⟩ (by show (x - (y + 1)).toNat < (x - y).toNat; omega)
        · have u1 : u < y + 1 := u1
          by_cases e : u = y
          · subst e; exact absurd hu p
          · exact hge u u0 (by omega) hu
        · rcases hat with z | ⟨u, u0, u1, u2, u3⟩
          · exact Or.inl z
          · exact Or.inr ⟨u, u0, by show u < y + 1; omega, u2, u3⟩
  have dx := hv.day _ oi.1 oi.2
  rw [hs 79 (by decide)]
  refine ⟨by omega, by omega, ?_⟩
  rintro _ rfl
  refine ⟨by omega, by omega, fun e => ?_, fun e => ?_⟩
  · unfold jP_slipFrom_J48
    rw [hc1.first _ oi.1 oi.2]
    exact ⟨by omega, by omega, by omega, body _ (by rw [if_neg e])⟩
  · unfold jP_slipFrom_J48
    rw [hc1.first _ oi.1 oi.2]
    exact ⟨by omega, by omega, by omega, body _ (by rw [if_pos e])⟩
end RQ

