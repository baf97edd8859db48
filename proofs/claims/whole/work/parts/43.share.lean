/-! the share: the only double -/
theorem fp_int {a : Int} (ha : i32 a) : Jvm.FP.Core.DInt a (FP.i2d (Int32.ofInt a)) := by
  have h := Jvm.FP.Core.i2d_int (Int32.ofInt a)
  rw [zi_to ha] at h
  exact h
theorem fp_num (a : Int) : vf_n64 (FP.i2d (Int32.ofInt a)) := Jvm.Free.Fl.noNaN64_no.mpr (Jvm.FP.Core.DFin.notNaN (Jvm.FP.Core.i2d_fin (Int32.ofInt a)))
theorem fp_nz {a : Int} (ha : i32 a) (h0 : a ≠ 0) : ¬ Jvm.FP.Core.DZero (FP.i2d (Int32.ofInt a)) := by
  intro z
  have e : Int32.ofInt a ≠ 0 := fun q => h0 (by
    have t := zi_to ha
    rw [q] at t
    have t0 : (0 : Int32).toInt = 0 := by decide
    rw [t0] at t
    exact t.symm)
  exact Jvm.FP.Core.i2d_ne_zero e ((Jvm.FP.Core.zero_bits2 _).mp z)
theorem fp_div {a c : Int} (hc : i32 c) (c0 : c ≠ 0) : vf_n64 (FP.ddiv (FP.i2d (Int32.ofInt a)) (FP.i2d (Int32.ofInt c))) :=
  Jvm.Free.Fl.noNaN64_no.mpr (Jvm.FP.Core.ddiv_out (Jvm.FP.Core.DFin.notNaN (Jvm.FP.Core.i2d_fin (Int32.ofInt a))) (Jvm.FP.Core.i2d_fin (Int32.ofInt c)) (fp_nz hc c0))
theorem fp_mul {a c : Int} (ha : i32 a) (hc : i32 c) (hp : i32 (a * c)) (h0 : a * c ≠ 0) (hb : (a * c).natAbs ≤ 2 ^ 53) : FP.dmul (FP.i2d (Int32.ofInt a)) (FP.i2d (Int32.ofInt c)) = FP.i2d (Int32.ofInt (a * c)) := by
  have h1 := fp_int ha
  have h2 := fp_int hc
  have h3 := fp_int hp
  generalize FP.i2d (Int32.ofInt a) = x at h1 ⊢
  generalize FP.i2d (Int32.ofInt c) = y at h2 ⊢
  generalize FP.i2d (Int32.ofInt (a * c)) = z at h3 ⊢
  have h4 := Jvm.FP.Core.dmul_int h1 h2 hb
  exact Jvm.FP.Core.dint_unique h0 h4 h3
