/-! the share: the only double -/
theorem fp_int {a : Int} (ha : i32 a) : Jvm.FP.Core.DInt a (FP.i2d (Int32.ofInt a)) := by
  have h := Jvm.FP.Core.i2d_int (Int32.ofInt a)
  rw [zi_to ha] at h
  exact h
theorem fp_num (a : Int) : vf_n64 (FP.i2d (Int32.ofInt a)) := Jvm.Free.Fl.noNaN64_no.mpr (Jvm.FP.Core.DFin.notNaN (Jvm.FP.Core.i2d_fin (Int32.ofInt a)))
