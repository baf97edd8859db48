/-! what is asked: latest first days, slack, the longest row, if slipped, cells, reasons, strips -/
section AC
variable {A A' S : zA} {H : Int → zA} {h fl L B : Int} {T : Int → Int} {M M2 Mm Mx : zM} {b : Nat}
theorem latestOf_ok (hc : CV A M 0) (hv : Val B A) {s : Int} (s0 : 0 ≤ s) (s1 : s < A 0 0) {Φ : Int → zM → Prop} (k : ∀ D, LateP A (gEnd A) D → ∀ M', (∀ a, a < 79 → M' a = M a) → Φ (D s) M') : jB_latestOf s M Φ := by
  have hn := hv.n
  unfold jB_latestOf
  exact read_ok hc hv (Or.inl rfl) (fun M3 hs3 ho3 hp3 => findLatest_ok (hs3.cv (Or.inl rfl) hc) hv (Or.inl rfl) ho3 hp3 (fun M5 hs5 hD => ⟨s0, by omega, k _ hD M5 (fun a ha => (hs5 a (by omega)).trans (hs3 a (by omega) (by omega) (by omega)))⟩))
def critN (A : zA) (D : Int → Int) : Int := cntA (fun j => decide (D j = A 4 j)) (A 0 0)
theorem critical_ok (hc : CV A M 0) (hv : Val B A) {Φ : Int → zM → Prop} (k : ∀ D, LateP A (gEnd A) D → ∀ M', (∀ a, a < 79 → M' a = M a) → Φ (critN A D) M') : jB_criticalBars M Φ := by
  have hn := hv.n
  unfold jB_criticalBars
  refine read_ok hc hv (Or.inl rfl) (fun M3 hs3 ho3 hp3 => findLatest_ok (hs3.cv (Or.inl rfl) hc) hv (Or.inl rfl) ho3 hp3 (fun M5 hs5 hD => ?_))
  have hs : ∀ a, a < 79 → M5 a = M a := fun a ha => (hs5 a (by omega)).trans (hs3 a (by omega) (by omega) (by omega))
  have hc5 : CV A M5 0 := hc.same (fun a a0 a1 => hs a (by omega))
  refine zfor2 (fun x => cntA (fun j => decide (M5 81 j = A 4 j)) x) (n := A 0 0) hn.1 rfl (fun K => ?_) (fun K x x0 x1 hK => ?_)
  · show jB_criticalBars_L26 K Φ M5 (cntA (fun j => decide (M5 81 j = A 4 j)) (A 0 0)) (A 0 0)
    unfold jB_criticalBars_L26
    rw [hc5.n]
    exact ⟨fun _ => k _ hD M5 hs, fun q => absurd (Int.le_refl _) q⟩
  · show jB_criticalBars_L26 K Φ M5 (cntA (fun j => decide (M5 81 j = A 4 j)) x) x
    have cr := cntA_rng (p := fun j => decide (M5 81 j = A 4 j)) x0
    unfold jB_criticalBars_L26
    rw [hc5.n, show M5 3 x = A 4 x from hc5.first x x0 x1]
    refine ⟨fun q => by omega, fun q => ⟨x0, by omega, x0, by omega, fun e => ⟨by omega, ?_⟩, fun e => ⟨by omega, ?_⟩⟩⟩
    · rintro _ rfl
      rw [cntA_f x0 (by rw [decide_eq_true_iff]; exact e), Int.add_zero] at hK
      exact hK
    · rintro _ rfl
      refine ⟨by omega, ?_⟩
      rintro _ rfl
      rw [cntA_t x0 (by rw [decide_eq_true_iff]; exact e)] at hK
      exact hK
theorem anum_uniq (hv : Val B A) {i j : Int} (i0 : 0 ≤ i) (i1 : i < A 6 0) (j0 : 0 ≤ j) (j1 : j < A 6 0) (e : A 8 i = A 8 j) : i = j := by
  rcases Int.lt_trichotomy i j with q | q | q
  · have := hv.anumlt i j i0 q j1; omega
  · exact q
  · have := hv.anumlt j i j0 q i1; omega
end AC

