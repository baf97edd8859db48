/-! lanes packed anew -/
section AC
variable {A A' S : zA} {H : Int → zA} {h fl L B : Int} {T : Int → Int} {M M2 Mm Mx' : zM} {b : Nat}
def dayR (A : zA) : Prop := (0 ≤ A 0 0 ∧ A 0 0 ≤ 30) ∧ ∀ j, 0 ≤ j → j < A 0 0 → 0 ≤ A 4 j ∧ A 4 j ≤ 2000 ∧ 0 ≤ A 5 j ∧ A 5 j ≤ 2000
theorem Val.dayR (hv : Val B A) (l : Int → Int) : dayR (lfA A l (A 4)) := ⟨hv.n, fun j j0 j1 => by have := hv.day j j0 j1; show 0 ≤ A 4 j ∧ A 4 j ≤ 2000 ∧ 0 ≤ A 5 j ∧ A 5 j ≤ 2000; omega⟩
-- whether a lane is taken by those that come ahead in the order o
def tk (A : zA) (l o : Int → Int) (x w : Int) : Prop := ∃ u, 0 ≤ u ∧ u < x ∧ l (o u) = w ∧ A 4 (o u) < endA A (o x) ∧ A 4 (o x) < endA A (o u)
theorem tk_congr {l l' o : Int → Int} {x w : Int} (he : ∀ u, 0 ≤ u → u < x → l (o u) = l' (o u)) : tk A l o x w ↔ tk A l' o x w := by
  constructor
  · rintro ⟨u, u0, u1, e, r⟩
    exact ⟨u, u0, u1, (he u u0 u1) ▸ e, r⟩
  · rintro ⟨u, u0, u1, e, r⟩
    exact ⟨u, u0, u1, (he u u0 u1).symm ▸ e, r⟩
def lowP (A : zA) (l o : Int → Int) (x : Int) : Prop := (0 ≤ l (o x) ∧ l (o x) < 12) ∧ (∀ v, 0 ≤ v → v < l (o x) → tk A l o x v) ∧ ¬ tk A l o x (l (o x))
theorem lowP_congr {l l' o : Int → Int} {x : Int} (he : ∀ u, 0 ≤ u → u ≤ x → l (o u) = l' (o u)) (x0 : 0 ≤ x) (h : lowP A l o x) : lowP A l' o x := by
  have ex := he x x0 (Int.le_refl _)
  unfold lowP at h ⊢
  rw [← ex]
  exact ⟨h.1, fun v v0 v1 => (tk_congr (fun u u0 u1 => he u u0 (by omega))).mp (h.2.1 v v0 v1), fun z => h.2.2 ((tk_congr (fun u u0 u1 => he u u0 (by omega))).mpr z)⟩
theorem isTaken_ok (hc : CV A M b) (hv : Val B A) {l o : Int → Int} (hl : ∀ j, 0 ≤ j → j < A 0 0 → M2 (b + 2) j = l j) (h1 : M2 (b + 3) = M (b + 3)) (h2 : M2 (b + 4) = M (b + 4)) (ho : M2 79 = o) (hs : SortP A o (A 0 0)) {x w : Int} (x0 : 0 ≤ x) (x1 : x < A 0 0) {Φ : Int → Prop} (ht : tk A l o x w → Φ 1) (hf : ¬ tk A l o x w → Φ 0) : jC_isTaken b x w M2 Φ := by
  have hn := hv.n
  have ox := hs.1 x x0 x1
  have dx := hv.day (o x) ox.1 ox.2
  have fx : M2 (b + 3) (o x) = A 4 (o x) := by rw [h1]; exact hc.first _ ox.1 ox.2
  have gx : M2 (b + 4) (o x) = A 5 (o x) := by rw [h2]; exact hc.days _ ox.1 ox.2
  unfold jC_isTaken
  rw [ho]
  refine ⟨x0, by omega, ?_⟩
  rintro _ rfl
  refine zfor1 (fun y => ∀ u, 0 ≤ u → u < y → ¬ (l (o u) = w ∧ A 4 (o u) < endA A (o x) ∧ A 4 (o x) < endA A (o u))) (n := x) x0 (fun j _ _ => by omega) (fun K hI => ?_) (fun K y y0 y1 hI hK => ?_)
  · unfold jC_isTaken_L8
    exact ⟨fun _ => hf (fun ⟨u, u0, u1, e⟩ => hI u u0 u1 e), fun q => absurd (Int.le_refl _) q⟩
  · have oy := hs.1 y y0 (by omega)
    have dy := hv.day (o y) oy.1 oy.2
    have fy : M2 (b + 3) (o y) = A 4 (o y) := by rw [h1]; exact hc.first _ oy.1 oy.2
    have gy : M2 (b + 4) (o y) = A 5 (o y) := by rw [h2]; exact hc.days _ oy.1 oy.2
    have nx : ¬ (l (o y) = w ∧ A 4 (o y) < endA A (o x) ∧ A 4 (o x) < endA A (o y)) → (i32 (y + 1) ∧ ∀ v : Int, v = y + 1 → K v) := fun q => ⟨by omega, fun v hv => hv ▸ hK (fun u u0 u1 => if e : u = y then e ▸ q else hI u u0 (by omega))⟩
    unfold jC_isTaken_L8
    rw [ho]
    refine ⟨fun q => by omega, fun _ => ⟨y0, by omega, ?_⟩⟩
    rintro _ rfl
    rw [hl (o y) oy.1 oy.2]
    refine ⟨oy.1, by omega, fun e => nx (fun z => e z.1), fun e => ⟨ox.1, by omega, ?_⟩⟩
    unfold jC_endOf
    rw [fx, gx]
    refine ⟨ox.1, by omega, ox.1, by omega, by omega, ?_⟩
    unfold jC_sharesDays jC_endOf
    rw [fy, gy]
    have ex : endA A (o x) = A 4 (o x) + A 5 (o x) := rfl
    have ey : endA A (o y) = A 4 (o y) + A 5 (o y) := rfl
    refine ⟨oy.1, by omega, fun q => ⟨fun _ => nx (fun z => by omega), fun z => absurd rfl z⟩, fun q => ⟨oy.1, by omega, oy.1, by omega, by omega, fun q2 => ⟨fun _ => nx (fun z => by omega), fun z => absurd rfl z⟩, fun q2 => ⟨fun z => by omega, fun _ => ht ⟨y, y0, y1, e, by omega, by omega⟩⟩⟩⟩
theorem lowestLane_ok (hc : CV A M b) (hv : Val B A) {l o : Int → Int} (hl : ∀ j, 0 ≤ j → j < A 0 0 → M2 (b + 2) j = l j) (h1 : M2 (b + 3) = M (b + 3)) (h2 : M2 (b + 4) = M (b + 4)) (ho : M2 79 = o) (hs : SortP A o (A 0 0)) {x : Int} (x0 : 0 ≤ x) (x1 : x < A 0 0) {Φ : Int → Prop} (k : ∀ w, 0 ≤ w → w ≤ 12 → (∀ v, 0 ≤ v → v < w → tk A l o x v) → (w < 12 → ¬ tk A l o x w) → Φ w) : jC_lowestLane b x M2 Φ := by
  unfold jC_lowestLane
  refine zfor1 (fun w => ∀ v, 0 ≤ v → v < w → tk A l o x v) (n := 12) (by omega) (fun v _ _ => by omega) (fun K hI => ?_) (fun K w w0 w1 hI hK => ?_)
  · unfold jC_lowestLane_L2
    exact ⟨fun _ => k 12 (by omega) (by omega) hI (fun z => by omega), fun q => absurd (Int.le_refl _) q⟩
  · unfold jC_lowestLane_L2
    refine ⟨fun q => by omega, fun _ => isTaken_ok hc hv hl h1 h2 ho hs x0 x1 (fun t => ⟨fun z => by omega, fun _ => ⟨by omega, ?_⟩⟩) (fun t => ⟨fun _ => k w w0 (by omega) hI (fun _ => t), fun z => absurd rfl z⟩)⟩
    rintro _ rfl
    exact hK (fun v v0 v1 => if e : v = w then e ▸ t else hI v v0 (by omega))
theorem sort_irr {o : Int → Int} {n t u : Int} (h : SortP A o n) (t0 : 0 ≤ t) (t1 : t < n) (u0 : 0 ≤ u) (u1 : u < n) (hl : LexP A (o t) (o u)) : t < u := by
  rcases Int.lt_trichotomy t u with q | q | q
  · exact q
  · subst q; unfold LexP at hl; omega
  · have := h.2.1 u t u0 q t1
    unfold LexP at hl this
    omega
def packA (A : zA) (l : Int → Int) : zA := lfA A l (A 4)
theorem packA_val (hv : Val B A) {l o : Int → Int} (hs : SortP A o (A 0 0)) (hl : ∀ t, 0 ≤ t → t < A 0 0 → lowP A l o t) : Val B (packA A l) := by
  refine lfA_val hv (fun j j0 j1 => ?_) (fun j j0 j1 => by have := hv.day j j0 j1; omega) (fun i j i0 i1 j0 j1 ij e => ?_)
  · obtain ⟨t, t0, t1, rfl⟩ := hs.2.2 j j0 j1
    exact (hl t t0 t1).1
  · obtain ⟨t, t0, t1, rfl⟩ := hs.2.2 j j0 j1
    obtain ⟨u, u0, u1, rfl⟩ := hs.2.2 i i0 i1
    rcases Int.lt_trichotomy t u with q | q | q
    · have := (hl u u0 u1).2.2
      have z : ¬ (A 4 (o t) < A 4 (o u) + A 5 (o u) ∧ A 4 (o u) < A 4 (o t) + A 5 (o t)) := fun z => this ⟨t, t0, q, e.symm, z.1, z.2⟩
      omega
    · subst q; exact absurd rfl ij
    · have := (hl t t0 t1).2.2
      have z : ¬ (A 4 (o u) < A 4 (o t) + A 5 (o t) ∧ A 4 (o t) < A 4 (o u) + A 5 (o u)) := fun z => this ⟨u, u0, q, e, z.1, z.2⟩
      omega
theorem packLanes_ok (hc : CV A M b) (hv : Val B A) (hb : b + 10 ≤ 70) {o : Int → Int} (ho : M 79 = o) (hs : SortP A o (A 0 0)) {Φ : Int → zM → Prop}
    (kf : ∀ l f, 0 ≤ f → f < A 0 0 → (∀ t, 0 ≤ t → t < f → lowP A l o t) → (∀ v, 0 ≤ v → v < 12 → tk A l o f v) → ∀ M', (∀ a, a ≠ b + 2 → M' a = M a) → Φ (-4) M')
    (ks : ∀ l, (∀ t, 0 ≤ t → t < A 0 0 → lowP A l o t) → (∀ j, 0 ≤ j → j < A 0 0 → l j = A 3 j) → ∀ M', (∀ a, a ≠ b + 2 → M' a = M a) → Φ (-5) M')
    (k : ∀ l, (∀ t, 0 ≤ t → t < A 0 0 → lowP A l o t) → ¬ (∀ j, 0 ≤ j → j < A 0 0 → l j = A 3 j) → ∀ M', (∀ a, a ≠ b + 2 → M' a = M a) → CV (packA A l) M' b → Φ (lanesA (packA A l)) M') : jC_packLanes b M Φ := by
  have hn := hv.n
  unfold jC_packLanes
  refine zwh_run (fun v : Int × Int × zM => 0 ≤ v.2.1 ∧ v.2.1 ≤ A 0 0 ∧ (∀ a, a ≠ b + 2 → v.2.2 a = M a) ∧ (∀ t, 0 ≤ t → t < v.2.1 → lowP A (v.2.2 (b + 2)) o t) ∧ (∀ t, v.2.1 ≤ t → t < A 0 0 → v.2.2 (b + 2) (o t) = A 3 (o t)) ∧ (v.1 = 0 → ∀ t, 0 ≤ t → t < v.2.1 → v.2.2 (b + 2) (o t) = A 3 (o t)) ∧ (¬ v.1 = 0 → ∃ t, 0 ≤ t ∧ t < v.2.1 ∧ ¬ v.2.2 (b + 2) (o t) = A 3 (o t))) (fun v => (A 0 0 - v.2.1).toNat) ?_ (0, 0, M) ⟨Int.le_refl 0, hn.1, fun _ _ => rfl, fun t t0 t1 => by have t1 : t < 0 := t1; omega, fun t t0 t1 => by have ot := hs.1 t t0 t1; exact hc.lane _ ot.1 ot.2, fun _ t t0 t1 => by have t1 : t < 0 := t1; omega, fun z => absurd rfl z⟩
  rintro K ⟨c, x, M1⟩ ⟨x0, x1, hm, hlo, hre, hz, hnz⟩ hK
  have x0 : 0 ≤ x := x0
  have x1 : x ≤ A 0 0 := x1
  have hmn : ∀ a, a ≠ b + 2 → M1 a = M a := hm
  have hlon : ∀ t, 0 ≤ t → t < x → lowP A (M1 (b + 2)) o t := hlo
  have hren : ∀ t, x ≤ t → t < A 0 0 → M1 (b + 2) (o t) = A 3 (o t) := hre
  have hzn : c = 0 → ∀ t, 0 ≤ t → t < x → M1 (b + 2) (o t) = A 3 (o t) := hz
  have hnzn : ¬ c = 0 → ∃ t, 0 ≤ t ∧ t < x ∧ ¬ M1 (b + 2) (o t) = A 3 (o t) := hnz
  show jC_packLanes_L4 b K Φ c x M1
  unfold jC_packLanes_L4
  rw [hmn b (by omega), hc.n, hmn 79 (by omega), ho]
  refine ⟨fun q => ?_, fun q => ⟨x0, by omega, ?_⟩⟩
  · have ex : x = A 0 0 := by omega
    have hall : ∀ t, 0 ≤ t → t < A 0 0 → lowP A (M1 (b + 2)) o t := fun t t0 t1 => hlon t t0 (by omega)
    refine ⟨fun e => ks _ hall (fun j j0 j1 => ?_) M1 hmn, fun e => ?_⟩
    · obtain ⟨t, t0, t1, rfl⟩ := hs.2.2 j j0 j1
      exact hzn e t t0 (by omega)
    · have hcp : CV (packA A (M1 (b + 2))) M1 b := lfA_CV hc (fun a a2 a3 => hmn a a2) (fun _ _ _ => rfl) (fun j j0 j1 => by rw [hmn _ (by omega)]; exact hc.first j j0 j1)
      refine lanesWithBars_ok hcp (packA_val hv hs hall) (k _ hall (fun z => ?_) M1 hmn hcp)
      obtain ⟨t, t0, t1, ht⟩ := hnzn e
      have ot := hs.1 t t0 (by omega)
      exact ht (z _ ot.1 ot.2)
  · rintro _ rfl
    have ox := hs.1 x x0 (by omega)
    refine lowestLane_ok hc hv (l := M1 (b + 2)) (fun _ _ _ => rfl) (hmn _ (by omega)) (hmn _ (by omega)) ((hmn 79 (by omega)).trans ho) hs x0 (by omega) (fun w w0 w1 wt wn => ⟨fun q2 => ⟨ox.1, by omega, fun e => ⟨by omega, ?_⟩, fun e => ⟨ox.1, by omega, ?_⟩⟩, fun q2 => kf (M1 (b + 2)) x x0 (by omega) hlon (fun v v0 v1 => wt v v0 (by omega)) M1 hmn⟩)
    · rintro _ rfl
      refine hK (c, x + 1, M1) ⟨by show 0 ≤ x + 1; omega, by show x + 1 ≤ A 0 0; omega, hmn, fun t t0 t1 => ?_, fun t t0 t1 => hren t (by have t0 : x + 1 ≤ t := t0; omega) t1, fun e2 t t0 t1 => ?_, fun e2 => ?_⟩ (by show (A 0 0 - (x + 1)).toNat < (A 0 0 - x).toNat; omega)
      · have t1 : t < x + 1 := t1
        by_cases et : t = x
        · subst et
          show lowP A (M1 (b + 2)) o t
          unfold lowP
          rw [e]
          exact ⟨⟨w0, q2⟩, wt, wn q2⟩
        · exact hlon t t0 (by omega)
      · have t1 : t < x + 1 := t1
        by_cases et : t = x
        · subst et; exact hren t (Int.le_refl _) (by omega)
        · exact hzn e2 t t0 (by omega)
      · obtain ⟨t, t0, t1, ht⟩ := hnzn e2
        exact ⟨t, t0, by show t < x + 1; omega, ht⟩
    · rintro M5 e5
      have g2 : M5 (b + 2) (o x) = w := by rw [e5, zup_at]
      have g3 : ∀ t, 0 ≤ t → t < A 0 0 → ¬ t = x → M5 (b + 2) (o t) = M1 (b + 2) (o t) := fun t t0 t1 hne => by
        rw [e5, zup_ne (fun z => hne (sort_inj hs t0 t1 x0 (by omega) z))]
      refine ⟨by omega, ?_⟩
      rintro _ rfl
      refine hK (1, x + 1, M5) ⟨by show 0 ≤ x + 1; omega, by show x + 1 ≤ A 0 0; omega, fun a ha => by show M5 a = M a; rw [e5, zup_other ha]; exact hmn a ha, fun t t0 t1 => ?_, fun t t0 t1 => ?_, fun e2 => absurd e2 (by show ¬ (1 : Int) = 0; decide), fun _ => ⟨x, x0, by show x < x + 1; omega, ?_⟩⟩ (by show (A 0 0 - (x + 1)).toNat < (A 0 0 - x).toNat; omega)
      · have t1 : t < x + 1 := t1
        show lowP A (M5 (b + 2)) o t
        by_cases et : t = x
        · subst et
          have hcg : ∀ v, tk A (M5 (b + 2)) o t v ↔ tk A (M1 (b + 2)) o t v := fun v => tk_congr (fun u u0 u1 => g3 u u0 (by omega) (by omega))
          unfold lowP
          rw [g2]
          exact ⟨⟨w0, q2⟩, fun v v0 v1 => (hcg v).mpr (wt v v0 v1), fun z => wn q2 ((hcg w).mp z)⟩
        · exact lowP_congr (fun u u0 u1 => (g3 u u0 (by omega) (by omega)).symm) t0 (hlon t t0 (by omega))
      · have t0 : x + 1 ≤ t := t0
        show M5 (b + 2) (o t) = A 3 (o t)
        rw [g3 t (by omega) t1 (by omega)]
        exact hren t (by omega) t1
      · show ¬ M5 (b + 2) (o x) = A 3 (o x)
        rw [g2]
        have := hren x (Int.le_refl _) (by omega)
        intro z
        exact e (this.trans z.symm)
end AC

