/-! the share: the only double -/
theorem fp_int {a : Int} (ha : i32 a) : Jvm.FP.Core.DInt a (FP.i2d (Int32.ofInt a)) := by
  have h := Jvm.FP.Core.i2d_int (Int32.ofInt a)
  rw [zi_to ha] at h
  exact h
theorem fp_num (a : Int) : vf_n64 (FP.i2d (Int32.ofInt a)) := Jvm.Free.Fl.noNaN64_no.mpr (Jvm.FP.Core.DFin.notNaN (Jvm.FP.Core.i2d_fin (Int32.ofInt a)))
theorem fp_nz {a : Int} (ha : i32 a) (h0 : a ≠ 0) : ¬ Jvm.FP.Core.DZero (FP.i2d (Int32.ofInt a)) := by
  intro z
  have e : Int32.ofInt a ≠ 0 := fun q => h0 (by
    have t := zi_to ha
    rw [q] at t
    have t0 : (0 : Int32).toInt = 0 := by decide
    rw [t0] at t
    exact t.symm)
  exact Jvm.FP.Core.i2d_ne_zero e ((Jvm.FP.Core.zero_bits2 _).mp z)
theorem fp_div {a c : Int} (hc : i32 c) (c0 : c ≠ 0) : vf_n64 (FP.ddiv (FP.i2d (Int32.ofInt a)) (FP.i2d (Int32.ofInt c))) :=
  Jvm.Free.Fl.noNaN64_no.mpr (Jvm.FP.Core.ddiv_out (Jvm.FP.Core.DFin.notNaN (Jvm.FP.Core.i2d_fin (Int32.ofInt a))) (Jvm.FP.Core.i2d_fin (Int32.ofInt c)) (fp_nz hc c0))
theorem fp_mul {a c : Int} (ha : i32 a) (hc : i32 c) (hp : i32 (a * c)) (h0 : a * c ≠ 0) (hb : (a * c).natAbs ≤ 2 ^ 53) : FP.dmul (FP.i2d (Int32.ofInt a)) (FP.i2d (Int32.ofInt c)) = FP.i2d (Int32.ofInt (a * c)) := by
  have h1 := fp_int ha
  have h2 := fp_int hc
  have h3 := fp_int hp
  generalize FP.i2d (Int32.ofInt a) = x at h1 ⊢
  generalize FP.i2d (Int32.ofInt c) = y at h2 ⊢
  generalize FP.i2d (Int32.ofInt (a * c)) = z at h3 ⊢
  have h4 := Jvm.FP.Core.dmul_int h1 h2 hb
  exact Jvm.FP.Core.dint_unique h0 h4 h3
section AC
variable {A : zA} {B : Int} {M Mm Mx : zM}
theorem sumN_ge {f : Int → Int} : ∀ {n : Nat} {j : Int}, (∀ i : Int, 0 ≤ i → i < n → 0 ≤ f i) → 0 ≤ j → j < n → f j ≤ sumN f n
  | 0, j, _, h0, h1 => by omega
  | n + 1, j, hn, h0, h1 => by
    show f j ≤ sumN f n + f n
    by_cases e : j = n
    · have s0 : 0 ≤ sumN f n := by
        clear e h1 h0
        induction n with
        | zero => exact Int.le_refl 0
        | succ k ih =>
          have := ih (fun i i0 i1 => hn i i0 (by omega))
          have := hn k (by omega) (by omega)
          show 0 ≤ sumN f k + f k
          omega
      subst e; omega
    · have h2 := sumN_ge (f := f) (n := n) (fun i i0 i1 => hn i i0 (by omega)) h0 (by omega)
      have h3 := hn n (by omega) (by omega)
      omega
theorem lanes_pos (hv : Val B A) (h : A 0 0 ≠ 0) : 1 ≤ lanesA A := by
  have hn := hv.n
  have hl := hv.lane 0 (by omega) (by omega)
  have e : laneC A (A 3 0) = 1 := laneC_t ⟨0, by omega, by omega, rfl⟩
  have s := sumN_ge (f := laneC A) (n := 12) (j := A 3 0) (fun i _ _ => (laneC_rng i).1) hl.1 (by omega)
  rw [e] at s
  exact s
theorem gEnd_pos (hv : Val B A) (h : A 0 0 ≠ 0) : 1 ≤ gEnd A := by
  have hn := hv.n
  have hd := hv.day 0 (by omega) (by omega)
  have u := mxI_ub (f := endA A) (n := A 0 0) (j := 0) (by omega) (by omega)
  unfold endA at u
  show 1 ≤ mxI (fun j => A 4 j + A 5 j) (A 0 0)
  have u2 : A 4 0 + A 5 0 ≤ mxI (fun j => A 4 j + A 5 j) (A 0 0) := u
  omega
theorem gEnd_zero (h : A 0 0 = 0) : gEnd A = 0 := by
  unfold gEnd
  rw [h]
  rfl
theorem room_rng (hv : Val B A) : (0 ≤ plc A (gEnd A) * lanesA A ∧ plc A (gEnd A) * lanesA A ≤ 21600) ∧ (0 ≤ plc A (gEnd A) ∧ plc A (gEnd A) ≤ 1800) := by
  have g := gEnd_rng hv
  have p := plc_rng hv g.1 g.2
  have l := lanesA_rng (A := A)
  have h1 : plc A (gEnd A) * lanesA A ≤ 1800 * lanesA A := Int.mul_le_mul_of_nonneg_right (by omega) l.1
  exact ⟨⟨Int.mul_nonneg p.1 l.1, by omega⟩, by omega⟩
theorem room_zero (hv : Val B A) : plc A (gEnd A) * lanesA A = 0 ↔ A 0 0 = 0 := by
  constructor
  · intro h
    by_cases e : A 0 0 = 0
    · exact e
    · have g := gEnd_rng hv
      have g1 := gEnd_pos hv e
      have m := plc_mono hv (d := 0) (e := gEnd A) (by omega) g.1 g.2
      have p0 : plc A 0 = 0 := rfl
      have l := lanes_pos hv e
      rcases Int.mul_eq_zero.mp h with z | z
      · omega
      · omega
  · intro h
    rw [gEnd_zero h]
    show plc A 0 * lanesA A = 0
    rw [show plc A 0 = 0 from rfl, Int.zero_mul]
theorem shareM_ok (hr : RV A (M 1)) (hv : Val B A) {Φ : UInt64 → Prop} (k0 : A 0 0 = 0 → Φ 0) (k : A 0 0 ≠ 0 → vf_n64 (FP.dmul (FP.i2d (Int32.ofInt (plc A (gEnd A)))) (FP.i2d (Int32.ofInt (lanesA A)))) ∧ vf_n64 (FP.ddiv (FP.i2d (Int32.ofInt (wBars A))) (FP.dmul (FP.i2d (Int32.ofInt (plc A (gEnd A)))) (FP.i2d (Int32.ofInt (lanesA A))))) ∧ Φ (FP.ddiv (FP.i2d (Int32.ofInt (wBars A))) (FP.dmul (FP.i2d (Int32.ofInt (plc A (gEnd A)))) (FP.i2d (Int32.ofInt (lanesA A)))))) : jM_share M Φ := by
  have hn := hv.n
  have g := gEnd_rng hv
  unfold jM_share
  refine zfor2 (fun x => sumI (wBar A) x) (n := A 0 0) hn.1 rfl (fun K => ?_) (fun K x x0 x1 hK => ?_)
  · show jM_share_L4 K Φ M (wBars A) (A 0 0)
    unfold jM_share_L4
    rw [hr.n]
    exact ⟨fun _ => ⟨fun q => greatestEndM_ok hr hv (widthOf0_ok hr hv g.1 g.2 (lanes_ok hr hv (k q))), fun q => k0 q⟩, fun q => absurd (Int.le_refl _) q⟩
  · show jM_share_L4 K Φ M (sumI (wBar A) x) x
    have d := hv.day x x0 (by omega)
    have p := wBars_part hv x0 (show x ≤ A 0 0 by omega)
    have w := wBar_rng hv x0 x1
    unfold jM_share_L4
    rw [hr.n]
    refine ⟨fun q => by omega, fun q => of2_ok hr hv x0 x1 (end_ok hr hv x0 x1 (widthOf_ok hr hv d.1 (by unfold endA; omega) (by unfold endA; omega) ?_))⟩
    rw [sumI_s _ x0] at hK
    unfold wBar at w
    refine ⟨by omega, ?_⟩
    rintro _ rfl
    refine ⟨by omega, ?_⟩
    rintro _ rfl
    exact hK
theorem share_pair (hp : PI B Mx Mm) : jB_share Mx (fun x => jM_share Mm (fun y => y = x)) := by
  obtain ⟨A, H, h, fl, S, L, T, hV, hX, hM⟩ := hp
  have hv := hV.1
  have g := gEnd_rng hv
  have l := lanesA_rng (A := A)
  have r := room_rng hv
  have z := room_zero hv
  unfold jB_share
  refine greatestEnd_ok hX.1 hv (place_ok hX.1 hv g.1 g.2 (lanesWithBars_ok hX.1 hv ⟨by omega, ?_⟩))
  rintro v e
  have vi : i32 v := by omega
  refine ⟨fun q => widthOfBars_ok hX.1 hv ⟨fp_div vi q, ?_⟩, fun q => ?_⟩
  · have n0 : A 0 0 ≠ 0 := fun y => q (e.trans (z.mpr y))
    have em := fp_mul (a := plc A (gEnd A)) (c := lanesA A) (by omega) (by omega) (by omega) (by omega) (by omega)
    rw [← e] at em
    refine shareM_ok hM.1 hv (fun y => absurd y n0) (fun _ => ?_)
    rw [em]
    exact ⟨fp_num v, fp_div vi q, rfl⟩
  · have n0 : A 0 0 = 0 := z.mp (e.symm.trans q)
    exact shareM_ok hM.1 hv (fun _ => rfl) (fun y => absurd n0 y)
end AC
