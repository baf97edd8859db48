/-! a bar slips as is told, and back: what holds of charts -/
theorem slip_ahead {B : Int} {A : zA} (hv : Val B A) {s d : Int} {D : Int → Int} (hD : SlipP A s d D) : ∀ (m : Nat) (j : Int), 0 ≤ j → j < A 0 0 → j ≠ s → A 4 j ≤ A 4 s → (A 4 j).toNat ≤ m → D j = A 4 j := by
  intro m
  induction m with
  | zero =>
    intro j j0 j1 js jl hm
    have dj := hv.day j j0 j1
    have f : fdA A s d j = A 4 j := by unfold fdA; rw [if_neg js]; omega
    rcases (hD.1 j j0 j1).2.2 with e | ⟨i, i0, i1, hp, e⟩
    · rw [e, f]
    · have lt := push_lt hv i0 i1 j0 j1 hp
      have di := hv.day i i0 i1
      omega
  | succ m ih =>
    intro j j0 j1 js jl hm
    have dj := hv.day j j0 j1
    have f : fdA A s d j = A 4 j := by unfold fdA; rw [if_neg js]; omega
    have ge := (hD.1 j j0 j1).1
    rcases (hD.1 j j0 j1).2.2 with e | ⟨i, i0, i1, hp, e⟩
    · rw [e, f]
    · have lt := push_lt hv i0 i1 j0 j1 hp
      have pe := push_end hv i0 i1 j0 j1 hp
      have di := hv.day i i0 i1
      have := ih i i0 i1 (fun z => by subst z; omega) (by omega) (by omega)
      unfold endA at pe
      omega
theorem slip_own {B : Int} {A : zA} (hv : Val B A) {s d : Int} (s0 : 0 ≤ s) (s1 : s < A 0 0) (d0 : 1 ≤ d) {D : Int → Int} (hD : SlipP A s d D) : D s = A 4 s + d := by
  have f : fdA A s d s = A 4 s + d := by unfold fdA; rw [if_pos rfl]
  have ge := (hD.1 s s0 s1).1
  rcases (hD.1 s s0 s1).2.2 with e | ⟨i, i0, i1, hp, e⟩
  · rw [e, f]
  · have lt := push_lt hv i0 i1 s0 s1 hp
    have pe := push_end hv i0 i1 s0 s1 hp
    have := slip_ahead hv hD _ i i0 i1 (fun z => by subst z; omega) (by omega) (Nat.le_refl _)
    unfold endA at pe
    omega
theorem slip_in {B : Int} {A : zA} (hv : Val B A) {s d : Int} {D E : Int → Int} (hD : SlipP A s d D) {g : Int} (hE : LateP A g E) (hs : A 4 s + d ≤ E s) : ∀ (m : Nat) (j : Int), 0 ≤ j → j < A 0 0 → (A 4 j).toNat ≤ m → D j ≤ E j := by
  intro m
  induction m with
  | zero =>
    intro j j0 j1 hm
    have dj := hv.day j j0 j1
    have ej := (hE.1 j j0 j1).2.1
    rcases (hD.1 j j0 j1).2.2 with e | ⟨i, i0, i1, hp, e⟩
    · rw [e]; unfold fdA
      by_cases q : j = s
      · rw [if_pos q, q]; exact hs
      · rw [if_neg q]; omega
    · have lt := push_lt hv i0 i1 j0 j1 hp
      have di := hv.day i i0 i1
      omega
  | succ m ih =>
    intro j j0 j1 hm
    have dj := hv.day j j0 j1
    have ej := (hE.1 j j0 j1).2.1
    rcases (hD.1 j j0 j1).2.2 with e | ⟨i, i0, i1, hp, e⟩
    · rw [e]; unfold fdA
      by_cases q : j = s
      · rw [if_pos q, q]; exact hs
      · rw [if_neg q]; omega
    · have lt := push_lt hv i0 i1 j0 j1 hp
      have di := hv.day i i0 i1
      have := ih i i0 i1 (by omega)
      have := hE.2 i j i0 i1 j0 j1 hp
      omega
theorem slip_out {B : Int} {A : zA} (hv : Val B A) {s d : Int} {D E : Int → Int} (hD : SlipP A s d D) {g : Int} (hE : LateP A g E) : ∀ (m : Nat) (j : Int), 0 ≤ j → j < A 0 0 → (200 - A 4 j).toNat ≤ m → E j < D j → ∃ i, 0 ≤ i ∧ i < A 0 0 ∧ g < D i + A 5 i := by
  intro m
  induction m with
  | zero => intro j j0 j1 hm; have := hv.day j j0 j1; omega
  | succ m ih =>
    intro j j0 j1 hm hlt
    rcases (hE.1 j j0 j1).2.2 with e | ⟨i, i0, i1, hp, e⟩
    · exact ⟨j, j0, j1, by omega⟩
    · have lt := push_lt hv j0 j1 i0 i1 hp
      have di := hv.day i i0 i1
      have q := hD.2 j i j0 j1 i0 i1 hp
      exact ih i i0 i1 (by omega) (by omega)
theorem slip_told {B : Int} {A : zA} (hv : Val B A) {s d : Int} (s0 : 0 ≤ s) (s1 : s < A 0 0) (d0 : 1 ≤ d) {D E : Int → Int} (hD : SlipP A s d D) (hE : LateP A (gEnd A) E) : mxI (fun j => D j + A 5 j) (A 0 0) = gEnd A ↔ d ≤ E s - A 4 s := by
  constructor
  · intro e
    by_cases q : d ≤ E s - A 4 s
    · exact q
    · have own := slip_own hv s0 s1 d0 hD
      obtain ⟨i, i0, i1, hi⟩ := slip_out hv hD hE _ s s0 s1 (Nat.le_refl _) (by omega)
      have := mxI_ub (f := fun j => D j + A 5 j) (n := A 0 0) i0 i1
      have : D i + A 5 i ≤ mxI (fun j => D j + A 5 j) (A 0 0) := this
      omega
  · intro q
    have a : mxI (fun j => D j + A 5 j) (A 0 0) ≤ gEnd A := mxI_le (gEnd_rng hv).1 (fun j j0 j1 => by
      have := slip_in hv hD hE (by omega) _ j j0 j1 (Nat.le_refl _)
      have := (hE.1 j j0 j1).1
      show D j + A 5 j ≤ gEnd A
      omega)
    have b : gEnd A ≤ mxI (fun j => D j + A 5 j) (A 0 0) := mxI_le (mxI_nn _ _) (fun j j0 j1 => by
      have u := mxI_ub (f := fun j => D j + A 5 j) (n := A 0 0) j0 j1
      have u : D j + A 5 j ≤ mxI (fun j => D j + A 5 j) (A 0 0) := u
      have g := (hD.1 j j0 j1).1
      have f : A 4 j ≤ fdA A s d j := by unfold fdA; split <;> omega
      unfold endA
      omega)
    omega
theorem slip_late {B : Int} {A : zA} (hv : Val B A) {s d : Int} {D : Int → Int} (hD : SlipP A s d D) : lateN (slipA A D) ≤ lateN A := by
  unfold lateN
  rw [show slipA A D 6 0 = A 6 0 from slipA_o (by decide) (by decide)]
  refine cntA_le (fun k k0 k1 hk => ?_)
  have hk : 0 < lateA (slipA A D) k := of_decide_eq_true hk
  refine decide_eq_true ?_
  have fs := hv.from k k0 k1
  have ts := hv.to k k0 k1
  by_cases q : 0 < lateA A k
  · exact q
  · have r := lateA_rng hv k0 k1
    have hp : pushP A (A 9 k) (A 10 k) := Or.inr ⟨k, k0, k1, rfl, rfl, by omega⟩
    have := hD.2 _ _ fs.1 fs.2 ts.1 ts.2 hp
    unfold lateA endA at hk
    rw [slipA_o (k := 9) (by decide) (by decide), slipA_o (k := 10) (by decide) (by decide), slipA_4 fs.1 fs.2, slipA_4 ts.1 ts.2, slipA_o (k := 5) (by decide) (by decide)] at hk
    omega
theorem slip_slidN {B : Int} {A : zA} (hv : Val B A) {s d : Int} (s0 : 0 ≤ s) (s1 : s < A 0 0) (d0 : 1 ≤ d) {D : Int → Int} (hD : SlipP A s d D) : d ≤ slidN A D := by
  have own := slip_own hv s0 s1 d0 hD
  have g := sumN_ge (f := fun j => D j - A 4 j) (n := (A 0 0).toNat) (j := s) (fun i i0 i1 => by
    have g := (hD.1 i i0 (by omega)).1
    have f : A 4 i ≤ fdA A s d i := by unfold fdA; split <;> omega
    show 0 ≤ D i - A 4 i
    omega) s0 (by omega)
  have e : slidN A D = sumN (fun j => D j - A 4 j) (A 0 0).toNat := rfl
  rw [e]
  have g : D s - A 4 s ≤ sumN (fun j => D j - A 4 j) (A 0 0).toNat := g
  omega
theorem slip_moved {B : Int} {A : zA} (hv : Val B A) {s d : Int} (s0 : 0 ≤ s) (s1 : s < A 0 0) (d0 : 1 ≤ d) {D : Int → Int} (hD : SlipP A s d D) : 0 < movedN A D := by
  have own := slip_own hv s0 s1 d0 hD
  have nn := movedN_nn hv D
  by_cases q : movedN A D = 0
  · exact absurd (decide_eq_true (show D s ≠ A 4 s by omega)) (cntA_none (p := fun j => decide (D j ≠ A 4 j)) q s0 s1)
  · omega
theorem pulA_ear {B : Int} {A : zA} (hv : Val B A) {s : Int} (s0 : 0 ≤ s) (s1 : s < A 0 0) : earA (pulA A s) s = earA A s := by
  have vp := pulA_val hv s0 s1
  have er := ear_rng hv s0 s1
  have ub : ∀ i, 0 ≤ i → i < A 0 0 → pushP A i s → endA A i ≤ earA A s := fun i i0 i1 hi => by have := mxI_ub (f := earF A s) i0 i1; rw [earF_t hi] at this; exact this
  have f4 : ∀ i, i ≠ s → pulA A s 4 i = A 4 i := fun i hi => by show (if i = s then earA A s else A 4 i) = A 4 i; rw [if_neg hi]
  have f4s : pulA A s 4 s = earA A s := by show (if s = s then earA A s else A 4 s) = earA A s; rw [if_pos rfl]
  have fe : ∀ i, i ≠ s → endA (pulA A s) i = endA A i := fun i hi => by unfold endA; rw [f4 i hi]; rfl
  unfold earA
  show mxI (earF (pulA A s) s) (A 0 0) = mxI (earF A s) (A 0 0)
  refine mxI_congr (fun i i0 i1 => ?_)
  by_cases e : i = s
  · subst e
    rw [earF_f (fun z => by have := push_lt vp s0 s1 s0 s1 z; omega), earF_f (fun z => by have := push_lt hv s0 s1 s0 s1 z; omega)]
  · have di := hv.day i i0 i1
    have iff : pushP (pulA A s) i s ↔ pushP A i s := by
      constructor
      · intro z
        have pe := push_end vp i0 i1 s0 s1 z
        rw [fe i e, f4s] at pe
        rcases z with ⟨z1, z2⟩ | ⟨k, k0, k1, z1, z2, z3⟩
        · refine Or.inl ⟨z1, ?_⟩
          unfold endA at pe
          omega
        · refine Or.inr ⟨k, k0, k1, z1, z2, ?_⟩
          have z1 : A 9 k = i := z1
          have z2 : A 10 k = s := z2
          unfold lateA
          rw [z1, z2]
          omega
      · intro z
        have u := ub i i0 i1 z
        rcases z with ⟨z1, z2⟩ | ⟨k, k0, k1, z1, z2, z3⟩
        · refine Or.inl ⟨z1, ?_⟩
          rw [f4 i e, f4s]
          unfold endA at u
          omega
        · refine Or.inr ⟨k, k0, k1, z1, z2, ?_⟩
          have q : lateA (pulA A s) k = max 0 (endA (pulA A s) (A 9 k) - pulA A s 4 (A 10 k)) := rfl
          rw [q, z1, z2, fe i e, f4s]
          omega
    by_cases z : pushP A i s
    · rw [earF_t z, earF_t (iff.mpr z), fe i e]
    · rw [earF_f z, earF_f (fun w => z (iff.mp w))]
/-! the history behind one act, behind two -/
theorem hs_last (A : zA) (H : Int → zA) {h : Int} : hsH A H h (hsN h - 1) = A := by
  unfold hsH hsN
  by_cases e : h = 4
  · rw [if_pos e, if_pos e, if_pos (by omega)]
  · rw [if_neg e, if_neg e, if_pos (by omega)]
theorem hs_two (A A' : zA) (H : Int → zA) {h : Int} (h0 : 0 ≤ h ∧ h ≤ 4) : hsH A' (hsH A H h) (hsN h) (hsN (hsN h) - 1 - 1) = A ∧ 0 < hsN h ∧ 0 < hsN (hsN h) ∧ 0 < hsN (hsN h) - 1 := by
  unfold hsN
  by_cases e : h = 4
  · subst e
    refine ⟨?_, by decide, by decide, by decide⟩
    rfl
  · rw [if_neg e]
    by_cases e3 : h + 1 = 4
    · have e3 : h = 3 := by omega
      subst e3
      exact ⟨rfl, by decide, by decide, by decide⟩
    · rw [if_neg e3]
      refine ⟨?_, by omega, by omega, by omega⟩
      unfold hsH
      rw [if_neg e3, if_neg (by omega), if_neg e, if_pos (by omega)]
