/-! lanes packed anew: the act -/
section AC
variable {A A' S : zA} {H : Int → zA} {h fl L B : Int} {T : Int → Int} {M M2 Mm Mx Mx' : zM} {b : Nat}
theorem packRV (hr : RV A (M 1)) (hv : Val B A) {σ : Int → Int} (ho : ∀ c, (∀ j, 0 ≤ j → j < A 0 0 → c ≠ 1 + 4 * j + 1) → σ c = M 1 c) {l : Int → Int} (hl : ∀ j, 0 ≤ j → j < A 0 0 → σ (1 + 4 * j + 1) = l j) : RV (packA A l) σ :=
  lfA_RV hr hv (fun c hc => ho c (fun j j0 j1 => (hc j j0 j1).1)) hl (fun j j0 j1 => by rw [ho _ (fun i i0 i1 => by omega)]; exact hr.first j j0 j1)
theorem cntA_none {p : Int → Bool} {n : Int} (hc : cntA p n = 0) {j : Int} (j0 : 0 ≤ j) (j1 : j < n) : ¬ p j = true := by
  intro hp
  have s := sumN_ge (f := fun j => if p j then 1 else 0) (n := n.toNat) (j := j) (fun i _ _ => by show (0 : Int) ≤ if p i then 1 else 0; split <;> omega) j0 (by omega)
  have e : sumN (fun j => if p j then 1 else 0) n.toNat = 0 := hc
  rw [e] at s
  simp only [hp, if_true] at s
  omega
theorem packs_ok (hr : RV A (M 1)) (hv : Val B A) {l o : Int → Int} (hs : SortP A o (A 0 0)) (ha : ∀ j, 0 ≤ j → j < A 0 0 → M 2 (1 + 4 * j + 1) = A 3 j) {f : Int} (f0 : 0 ≤ f) (f1 : f ≤ A 0 0) (hl : ∀ t, 0 ≤ t → t < f → lowP A l o t) (hf : f < A 0 0 → ∀ v, 0 ≤ v → v < 12 → tk A l o f v) {Φ : Int → zM → Prop}
    (kf : f < A 0 0 → ∀ M', (∀ a, a ≠ 1 → M' a = M a) → Φ (-4) M')
    (ks : f = A 0 0 → (∀ j, 0 ≤ j → j < A 0 0 → l j = A 3 j) → ∀ M', (∀ a, a ≠ 1 → M' a = M a) → Φ (-5) M')
    (k : f = A 0 0 → ¬ (∀ j, 0 ≤ j → j < A 0 0 → l j = A 3 j) → ∀ M', (∀ a, a ≠ 1 → M' a = M a) → RV (packA A l) (M' 1) → Φ (lanesA (packA A l)) M') : jM_packs M Φ := by
  have hn := hv.n
  unfold jM_packs
  refine zwh_run (fun v : Int × zM => 0 ≤ v.1 ∧ v.1 ≤ A 0 0 ∧ (∀ a, a ≠ 1 → v.2 a = M a) ∧ (∀ c, (∀ j, 0 ≤ j → j < A 0 0 → c ≠ 1 + 4 * j + 1) → v.2 1 c = M 1 c) ∧ ∀ j, 0 ≤ j → j < v.1 → v.2 1 (1 + 4 * j + 1) = -1) (fun v => (A 0 0 - v.1).toNat) ?_ (0, M) ⟨Int.le_refl 0, hn.1, fun _ _ => rfl, fun _ _ => rfl, fun j j0 j1 => by have j1 : j < 0 := j1; omega⟩
  rintro K ⟨x, M1⟩ ⟨x0, x1, hm, ho, h2⟩ hK
  have x0 : 0 ≤ x := x0
  have x1 : x ≤ A 0 0 := x1
  have hmn : ∀ a, a ≠ 1 → M1 a = M a := hm
  have hon : ∀ c, (∀ j, 0 ≤ j → j < A 0 0 → c ≠ 1 + 4 * j + 1) → M1 1 c = M 1 c := ho
  have h2n : ∀ j, 0 ≤ j → j < x → M1 1 (1 + 4 * j + 1) = -1 := h2
  show jM_packs_L2 K Φ x M1
  unfold jM_packs_L2
  rw [hon 0 (fun j j0 j1 => by omega), hr.n]
  refine ⟨fun q => ?_, fun q => ⟨by omega, by omega, by omega, by omega, by omega, ?_⟩⟩
  · have r1 : RV (packA A (fun _ => -1)) (M1 1) := packRV hr hv hon (fun j j0 j1 => h2n j j0 (by omega))
    refine firstO (A := A) r1 (hv.dayR _) rfl (fun _ => rfl) hs ?_
    refine zwh_cnt (fun (m : Nat) (v : Int × zM) => ∃ t : Int, 0 ≤ t ∧ t ≤ f ∧ m = (A 0 0 - t).toNat ∧ v.1 = curO o (A 0 0) t ∧ (∀ a, a ≠ 1 → v.2 a = M a) ∧ (∀ c, (∀ j, 0 ≤ j → j < A 0 0 → c ≠ 1 + 4 * j + 1) → v.2 1 c = M 1 c) ∧ (∀ u, 0 ≤ u → u < t → v.2 1 (1 + 4 * o u + 1) = l (o u)) ∧ ∀ u, t ≤ u → u < A 0 0 → v.2 1 (1 + 4 * o u + 1) = -1) ?_ (A 0 0 - 0).toNat (curO o (A 0 0) 0, M1) ⟨0, Int.le_refl 0, f0, rfl, rfl, hmn, hon, fun u u0 u1 => by omega, fun u u0 u1 => by have ou := hs.1 u u0 u1; exact h2n _ ou.1 (by omega)⟩
    rintro K2 m ⟨y, M3⟩ ⟨t, t0, tf, em, ey, hm3, ho3, hp1, hp2⟩ hK2
    have ey : y = curO o (A 0 0) t := ey
    have hm3n : ∀ a, a ≠ 1 → M3 a = M a := hm3
    have ho3n : ∀ c, (∀ j, 0 ≤ j → j < A 0 0 → c ≠ 1 + 4 * j + 1) → M3 1 c = M 1 c := ho3
    have hp1n : ∀ u, 0 ≤ u → u < t → M3 1 (1 + 4 * o u + 1) = l (o u) := hp1
    have hp2n : ∀ u, t ≤ u → u < A 0 0 → M3 1 (1 + 4 * o u + 1) = -1 := hp2
    show jM_packs_L38 K2 Φ y M3
    unfold jM_packs_L38
    unfold curO at ey
    refine ⟨fun e => ?_, fun e => ?_⟩
    · have tn : ¬ t < A 0 0 := fun z => by
        rw [if_pos z] at ey
        have := (hs.1 t t0 z).1
        omega
      have et : t = A 0 0 := by omega
      have ef : f = A 0 0 := by omega
      have pl : ∀ j, 0 ≤ j → j < A 0 0 → M3 1 (1 + 4 * j + 1) = l j := fun j j0 j1 => by
        obtain ⟨u, u0, u1, rfl⟩ := hs.2.2 j j0 j1
        exact hp1n u u0 (by omega)
      have hrl : RV (packA A l) (M3 1) := packRV hr hv ho3n pl
      have vl : Val B (packA A l) := packA_val hv hs (fun t t0 t1 => hl t t0 (by omega))
      have n0 : M3 1 0 = A 0 0 := hrl.n
      refine zfor2 (fun y => cntA (fun j => decide (l j ≠ A 3 j)) y) (n := A 0 0) hn.1 rfl (fun K' => ?_) (fun K' y y0 y1 hK' => ?_)
      · show jM_packs_L118 K' Φ M3 (cntA (fun j => decide (l j ≠ A 3 j)) (A 0 0)) (A 0 0)
        unfold jM_packs_L118
        rw [n0]
        refine ⟨fun _ => ⟨fun e => lanes_ok hrl vl (k ef (fun z => e (cntA_zero hn.1 (fun j j0 j1 => by rw [decide_eq_true_iff]; exact fun y => y (z j j0 j1)))) M3 hm3n hrl), fun e => ks ef (fun j j0 j1 => ?_) M3 hm3n⟩, fun q => absurd (Int.le_refl _) q⟩
        have := cntA_none e j0 j1
        rw [decide_eq_true_iff] at this
        exact Classical.byContradiction this
      · show jM_packs_L118 K' Φ M3 (cntA (fun j => decide (l j ≠ A 3 j)) y) y
        have cr := cntA_rng (p := fun j => decide (l j ≠ A 3 j)) y0
        unfold jM_packs_L118
        rw [n0]
        refine ⟨fun q => by omega, fun q => of_raw y0 (by omega) (by omega) (by omega) ?_⟩
        rw [pl y y0 y1, hm3n 2 (by omega), show (1 + 4 * y) + 1 = 1 + 4 * y + 1 from rfl, ha y y0 y1]
        refine ⟨by omega, by omega, by omega, by omega, by omega, fun e => ⟨by omega, ?_⟩, fun e => ⟨by omega, ?_⟩⟩
        · rintro _ rfl
          refine ⟨by omega, ?_⟩
          rintro _ rfl
          rw [cntA_t y0 (by rw [decide_eq_true_iff]; exact e)] at hK'
          exact hK'
        · rintro _ rfl
          refine ⟨by omega, ?_⟩
          rintro _ rfl
          rw [cntA_f y0 (by rw [decide_eq_true_iff]; exact fun z => z e)] at hK'
          exact hK'
    · have tn : t < A 0 0 := by
        by_cases z : t < A 0 0
        · exact z
        · rw [if_neg z] at ey; exact absurd ey e
      rw [if_pos tn] at ey
      have ot := hs.1 t t0 tn
      have dt := hv.day (o t) ot.1 ot.2
      have hr3 : RV (packA A (fun j => M3 1 (1 + 4 * j + 1))) (M3 1) := packRV hr hv ho3n (fun _ _ _ => rfl)
      have e4 : M3 1 (1 + 4 * o t + 2) = A 4 (o t) := hr3.first (o t) ot.1 ot.2
      have e5 : M3 1 (1 + 4 * o t + 3) = A 5 (o t) := hr3.days (o t) ot.1 ot.2
      rw [ey]
      refine zfor1 (fun w => ∀ v, 0 ≤ v → v < w → tk A l o t v) (n := 12) (by omega) (fun v _ _ => by omega) (fun K' hI => ?_) (fun K' w w0 w1 hI hK' => ?_)
      · unfold jM_packs_L46 jM_packs_J83
        refine ⟨fun _ => ⟨fun z => absurd rfl z, fun _ => kf ?_ M3 hm3n⟩, fun q => absurd (Int.le_refl _) q⟩
        by_cases z : t < f
        · have := hl t t0 z
          exact absurd (hI _ this.1.1 this.1.2) this.2.2
        · omega
      · unfold jM_packs_L46
        refine ⟨fun q => by omega, fun _ => of_raw ot.1 (by omega) (by omega) (by omega) (end_raw ot.1 (by omega) (by rw [e4, e5]; omega) ?_)⟩
        rw [e4, e5]
        refine ⟨by omega, withinR_ok hr3 (hv.dayR _) (fun i i0 i1 hi => ⟨fun z => by omega, fun _ => ⟨by omega, ?_⟩⟩) (fun hno => ⟨fun _ => ?_, fun z => absurd rfl z⟩)⟩
        · rintro _ rfl
          refine hK' (fun v v0 v1 => ?_)
          by_cases ev : v = w
          · obtain ⟨u, u0, u1, rfl⟩ := hs.2.2 i i0 i1
            have p1 : M3 1 (1 + 4 * o u + 1) = w := hi.2.2.1
            have q1 : A 4 (o u) ≤ A 4 (o t) + A 5 (o t) - 1 := hi.2.2.2.1
            have q2 : A 4 (o t) < A 4 (o u) + A 5 (o u) := hi.2.2.2.2
            have ut : u < t := by
              by_cases z : u < t
              · exact z
              · have := hp2n u (by omega) u1
                omega
            rw [hp1n u u0 ut] at p1
            exact ⟨u, u0, ut, p1.trans ev.symm, by show A 4 (o u) < A 4 (o t) + A 5 (o t); omega, q2⟩
          · exact hI v v0 (by omega)
        · have ntk : ¬ tk A l o t w := by
            rintro ⟨u, u0, u1, e1, e2, e3⟩
            have ou := hs.1 u u0 (by omega)
            refine hno (o u) ou.1 ou.2 ⟨by omega, by omega, (hp1n u u0 u1).trans e1, ?_, e3⟩
            show A 4 (o u) ≤ A 4 (o t) + A 5 (o t) - 1
            have e2 : A 4 (o u) < A 4 (o t) + A 5 (o t) := e2
            omega
          have tlf : t < f := by
            by_cases z : t < f
            · exact z
            · have ef : f = t := by omega
              exact absurd (ef ▸ hf (by omega) w w0 w1) ntk
          have lw : l (o t) = w := by
            have := hl t t0 tlf
            rcases Int.lt_trichotomy (l (o t)) w with z | z | z
            · exact absurd (hI _ this.1.1 z) this.2.2
            · exact z
            · exact absurd (this.2.1 w w0 z) ntk
          unfold jM_packs_J83
          refine ⟨fun _ => ⟨by omega, by omega, by omega, by omega, by omega, ?_⟩, fun z => by omega⟩
          rintro M24 e24
          have s1 : ∀ a, a ≠ 1 → M24 a = M a := fun a ha => by rw [e24, zup_other ha]; exact hm3n a ha
          have s2 : ∀ c, (∀ j, 0 ≤ j → j < A 0 0 → c ≠ 1 + 4 * j + 1) → M24 1 c = M 1 c := fun c hc => by rw [e24, zup_ne (hc (o t) ot.1 ot.2)]; exact ho3n c hc
          have s3 : M24 1 (1 + 4 * o t + 1) = w := by rw [e24, zup_at]
          have s4 : ∀ u, 0 ≤ u → u < A 0 0 → ¬ u = t → M24 1 (1 + 4 * o u + 1) = M3 1 (1 + 4 * o u + 1) := fun u u0 u1 hne => by
            have : o u ≠ o t := fun z => hne (sort_inj hs u0 u1 t0 tn z)
            rw [e24, zup_ne (by omega)]
          have hr24 : RV (packA A (fun j => M24 1 (1 + 4 * j + 1))) (M24 1) := packRV hr hv s2 (fun _ _ _ => rfl)
          refine nextO (A := A) hr24 (hv.dayR _) rfl (fun _ => rfl) hs t0 tn ?_
          refine hK2 (A 0 0 - (t + 1)).toNat (curO o (A 0 0) (t + 1), M24) ⟨t + 1, by omega, by omega, rfl, rfl, s1, s2, fun u u0 u1 => ?_, fun u u0 u1 => ?_⟩ (by omega)
          · show M24 1 (1 + 4 * o u + 1) = l (o u)
            by_cases e : u = t
            · rw [e, s3]; exact lw.symm
            · rw [s4 u u0 (by omega) e]; exact hp1n u u0 (by omega)
          · show M24 1 (1 + 4 * o u + 1) = -1
            rw [s4 u (by omega) u1 (by omega)]
            exact hp2n u (by omega) u1
  · rintro M5 e5
    refine ⟨by omega, ?_⟩
    rintro _ rfl
    refine hK (x + 1, M5) ⟨by show 0 ≤ x + 1; omega, by show x + 1 ≤ A 0 0; omega, fun a ha => by show M5 a = M a; rw [e5, zup_other ha]; exact hmn a ha, fun c hc => by show M5 1 c = M 1 c; rw [e5, zup_ne (hc x x0 (by omega))]; exact hon c hc, fun j j0 j1 => ?_⟩ (by show (A 0 0 - (x + 1)).toNat < (A 0 0 - x).toNat; omega)
    have j1 : j < x + 1 := j1
    show M5 1 (1 + 4 * j + 1) = -1
    by_cases e : j = x
    · rw [e5, e, zup_at]
    · rw [e5, zup_ne (by omega)]; exact h2n j j0 (by omega)
theorem pack_pair (hp : PI B Mx Mm) : jB_pack Mx (fun r Mx' => jM_pack Mm (fun r' Mm' => r' = r ∧ PI B Mx' Mm')) := by
  obtain ⟨A, H, h, fl, S, L, T, hV, hX, hM⟩ := hp
  have hv := hV.1
  have aside : ∀ M1 : zM, (∀ x, 0 ≤ x → x < 447 → M1 2 x = Mm 1 x) → ∀ j, 0 ≤ j → j < A 0 0 → M1 2 (1 + 4 * j + 1) = A 3 j := fun M1 ha1 j j0 j1 => by
    have hn := hv.n
    rw [ha1 _ (by omega) (by omega)]
    exact hM.1.lane j j0 j1
  unfold jB_pack
  refine copyFrom_ok hv (Or.inr (by omega)) hX.1 (fun M1 hs1 hc1 => sort_ok hc1 hv (Or.inr (Or.inl rfl)) (fun M2 hs2 hso => ?_))
  have hc2 : CV A M2 10 := hc1.same (fun a a0 a1 => hs2 a (by omega))
  have sx : ∀ M' : zM, (∀ a, a ≠ 12 → M' a = M2 a) → ∀ a, (a < 10 ∨ 20 ≤ a) → a < 79 → M' a = Mx a := fun M' hs a q1 q2 => ((hs a (by omega)).trans (hs2 a (by omega))).trans (hs1 a (by omega))
  have sI : ∀ M' : zM, (∀ a, a ≠ 12 → M' a = M2 a) → IX A H h fl S L T M' := fun M' hs => hX.same (fun a ha => sx M' hs a (by omega) (by omega)) (by rw [sx M' hs 73 (by omega) (by omega)]) (sx M' hs 74 (by omega) (by omega))
  refine packLanes_ok hc2 hv (by omega) (o := M2 79) rfl hso (fun l f f0 f1 hl hf M' hs => ?_) (fun l hl he M' hs => ?_) (fun l hl he M' hs hcp => ?_)
  · refine settleBad (by omega) ?_
    unfold jM_pack
    refine putAside_ok (fun M1 hs1 ha1 => packs_ok (by rw [hs1 1 (by omega)]; exact hM.1) hv hso (aside M1 ha1) f0 (by omega) hl (fun _ => hf) (fun _ M3 hs3 => ?_) (fun e => by omega) (fun e => by omega))
    exact bad_ok hV hM (fun q q1 q2 _ => (hs3 q q1).trans (hs1 q q2)) (fun x x0 x1 => by rw [hs3 2 (by omega)]; exact ha1 x x0 x1) (by omega) (sI M' hs)
  · refine settleBad (by omega) ?_
    unfold jM_pack
    refine putAside_ok (fun M1 hs1 ha1 => packs_ok (by rw [hs1 1 (by omega)]; exact hM.1) hv hso (aside M1 ha1) hv.n.1 (Int.le_refl _) hl (fun z => by omega) (fun z => by omega) (fun _ _ M3 hs3 => ?_) (fun _ z => absurd he z))
    exact bad_ok hV hM (fun q q1 q2 _ => (hs3 q q1).trans (hs1 q q2)) (fun x x0 x1 => by rw [hs3 2 (by omega)]; exact ha1 x x0 x1) (by omega) (sI M' hs)
  · have vl : Val B (packA A l) := packA_val hv hso hl
    refine settle_ok hV (sI M' hs) vl hcp lanesA_rng.1 (fun Mx' hX' => ?_)
    unfold jM_pack
    refine putAside_ok (fun M1 hs1 ha1 => packs_ok (by rw [hs1 1 (by omega)]; exact hM.1) hv hso (aside M1 ha1) hv.n.1 (Int.le_refl _) hl (fun z => by omega) (fun z => by omega) (fun _ z => absurd z he) (fun _ _ M3 hs3 hr3 => ?_))
    exact fin_ok hV hM (fun q q1 q2 _ => (hs3 q q1).trans (hs1 q q2)) (fun x x0 x1 => by rw [hs3 2 (by omega)]; exact ha1 x x0 x1) hr3 vl lanesA_rng.1 hX'
end AC
