/-! a bar taken away -/
section AC
variable {A A' S : zA} {H : Int → zA} {h fl L B : Int} {T : Int → Int} {M M2 Mm Mx' : zM} {b : Nat}
noncomputable def dAr1 (s : Int) (f : zA → Int → zA × Int) (m : Int) (A : zA) (c : Int) : zA × Int := by classical exact if A 9 m = s ∨ A 10 m = s then f (drpA A m) (c + 1) else f A c
noncomputable def dArr (s : Int) : Nat → zA → Int → zA × Int
  | 0, A, c => (A, c)
  | m + 1, A, c => dAr1 s (dArr s m) m A c
theorem dArr_t {s : Int} {m : Nat} {c : Int} (q : A 9 m = s ∨ A 10 m = s) : dArr s (m + 1) A c = dArr s m (drpA A m) (c + 1) := by show dAr1 s (dArr s m) m A c = _; unfold dAr1; rw [if_pos q]
theorem dArr_f {s : Int} {m : Nat} {c : Int} (q : ¬ (A 9 m = s ∨ A 10 m = s)) : dArr s (m + 1) A c = dArr s m A c := by show dAr1 s (dArr s m) m A c = _; unfold dAr1; rw [if_neg q]
def offP (A : zA) (s : Int) (m : Int) : Prop := ∀ k, m ≤ k → k < A 6 0 → A 9 k ≠ s ∧ A 10 k ≠ s
theorem offP_drop {s m : Int} (h : offP A s (m + 1)) : offP (drpA A m) s m := by
  intro k k0 k1
  have k1 : k < A 6 0 - 1 := k1
  rw [(drpA_ge (show ¬ k < m by omega)).2.1, (drpA_ge (show ¬ k < m by omega)).2.2]
  exact h (k + 1) (by omega) (by omega)
theorem offP_stay {s m : Int} (h : offP A s (m + 1)) (q : ¬ (A 9 m = s ∨ A 10 m = s)) : offP A s m := by
  intro k k0 k1
  by_cases e : k = m
  · subst e; exact ⟨fun z => q (Or.inl z), fun z => q (Or.inr z)⟩
  · exact h k (by omega) k1
theorem dArr_ok {s : Int} : ∀ (m : Nat) (A : zA) (c : Int), Val B A → (m : Int) ≤ A 6 0 → offP A s m → Val B (dArr s m A c).1 ∧ offP (dArr s m A c).1 s 0 ∧ (dArr s m A c).1 0 0 = A 0 0 ∧ c ≤ (dArr s m A c).2
  | 0, A, c, hv, hm, ho => ⟨hv, ho, rfl, Int.le_refl _⟩
  | m + 1, A, c, hv, hm, ho => by
    have ho : offP A s ((m : Int) + 1) := by rw [show ((m + 1 : Nat) : Int) = (m : Int) + 1 by omega] at ho; exact ho
    by_cases q : A 9 m = s ∨ A 10 m = s
    · rw [dArr_t q]
      have r := dArr_ok m (drpA A m) (c + 1) (drpA_val hv (by omega) (by omega)) (by show (m : Int) ≤ A 6 0 - 1; omega) (offP_drop ho)
      exact ⟨r.1, r.2.1, r.2.2.1, by omega⟩
    · rw [dArr_f q]
      exact dArr_ok m A c hv (by omega) (offP_stay ho q)
def delA (A : zA) (s : Int) : zA := fun c x => match c with
  | 0 => A 0 0 - 1
  | 2 => if x < s then A 2 x else A 2 (x + 1)
  | 3 => if x < s then A 3 x else A 3 (x + 1)
  | 4 => if x < s then A 4 x else A 4 (x + 1)
  | 5 => if x < s then A 5 x else A 5 (x + 1)
  | 9 => if A 9 x ≤ s then A 9 x else A 9 x - 1
  | 10 => if A 10 x ≤ s then A 10 x else A 10 x - 1
  | c => A c x
theorem delA_lt {s x : Int} (q : x < s) : delA A s 2 x = A 2 x ∧ delA A s 3 x = A 3 x ∧ delA A s 4 x = A 4 x ∧ delA A s 5 x = A 5 x := ⟨if_pos q, if_pos q, if_pos q, if_pos q⟩
theorem delA_ge {s x : Int} (q : ¬ x < s) : delA A s 2 x = A 2 (x + 1) ∧ delA A s 3 x = A 3 (x + 1) ∧ delA A s 4 x = A 4 (x + 1) ∧ delA A s 5 x = A 5 (x + 1) := ⟨if_neg q, if_neg q, if_neg q, if_neg q⟩
def mpI (s x : Int) : Int := if x < s then x else x + 1
theorem delA_mp (s x : Int) : delA A s 2 x = A 2 (mpI s x) ∧ delA A s 3 x = A 3 (mpI s x) ∧ delA A s 4 x = A 4 (mpI s x) ∧ delA A s 5 x = A 5 (mpI s x) := by
  unfold mpI
  by_cases q : x < s
  · rw [if_pos q]; exact delA_lt q
  · rw [if_neg q]; exact delA_ge q
theorem delA_9 {s x : Int} (q : A 9 x ≠ s) : mpI s (delA A s 9 x) = A 9 x ∧ (0 ≤ A 9 x → A 9 x < A 0 0 → 0 ≤ s → s < A 0 0 → 0 ≤ delA A s 9 x ∧ delA A s 9 x < A 0 0 - 1) := by
  show mpI s (if A 9 x ≤ s then A 9 x else A 9 x - 1) = A 9 x ∧ (0 ≤ A 9 x → A 9 x < A 0 0 → 0 ≤ s → s < A 0 0 → 0 ≤ (if A 9 x ≤ s then A 9 x else A 9 x - 1) ∧ (if A 9 x ≤ s then A 9 x else A 9 x - 1) < A 0 0 - 1)
  unfold mpI
  by_cases e : A 9 x ≤ s
  · rw [if_pos e, if_pos (by omega)]; exact ⟨rfl, fun _ _ _ _ => by omega⟩
  · rw [if_neg e, if_neg (by omega)]; exact ⟨by omega, fun _ _ _ _ => by omega⟩
theorem delA_10 {s x : Int} (q : A 10 x ≠ s) : mpI s (delA A s 10 x) = A 10 x ∧ (0 ≤ A 10 x → A 10 x < A 0 0 → 0 ≤ s → s < A 0 0 → 0 ≤ delA A s 10 x ∧ delA A s 10 x < A 0 0 - 1) := by
  show mpI s (if A 10 x ≤ s then A 10 x else A 10 x - 1) = A 10 x ∧ (0 ≤ A 10 x → A 10 x < A 0 0 → 0 ≤ s → s < A 0 0 → 0 ≤ (if A 10 x ≤ s then A 10 x else A 10 x - 1) ∧ (if A 10 x ≤ s then A 10 x else A 10 x - 1) < A 0 0 - 1)
  unfold mpI
  by_cases e : A 10 x ≤ s
  · rw [if_pos e, if_pos (by omega)]; exact ⟨rfl, fun _ _ _ _ => by omega⟩
  · rw [if_neg e, if_neg (by omega)]; exact ⟨by omega, fun _ _ _ _ => by omega⟩
theorem mpI_ok {s x n : Int} (x0 : 0 ≤ x) (x1 : x < n - 1) : 0 ≤ mpI s x ∧ mpI s x < n ∧ ∀ y, y < x → mpI s y < mpI s x := by
  unfold mpI
  by_cases q : x < s
  · rw [if_pos q]; exact ⟨x0, by omega, fun y hy => by rw [if_pos (by omega)]; exact hy⟩
  · rw [if_neg q]; exact ⟨by omega, by omega, fun y hy => by by_cases q2 : y < s; rw [if_pos q2]; omega; rw [if_neg q2]; omega⟩
theorem delA_val (hv : Val B A) {s : Int} (s0 : 0 ≤ s) (s1 : s < A 0 0) (ho : offP A s 0) : Val B (delA A s) := by
  have hn := hv.n
  have he := hv.ever
  refine ⟨by show 0 ≤ A 0 0 - 1 ∧ A 0 0 - 1 ≤ 30; omega, by show A 0 0 - 1 ≤ A 1 0 ∧ A 1 0 ≤ 90; omega, hv.a, hv.aever, hv.slip, fun x x0 x1 => ?_, fun y x y0 yx x1 => ?_, fun x x0 x1 => ?_, fun x x0 x1 => ?_, fun y x y0 y1 x0 x1 yx e => ?_, hv.anum, hv.anumlt, fun x x0 x1 => (delA_9 (ho x x0 x1).1).2 (hv.from x x0 x1).1 (hv.from x x0 x1).2 s0 s1, fun x x0 x1 => (delA_10 (ho x x0 x1).2).2 (hv.to x x0 x1).1 (hv.to x x0 x1).2 s0 s1, hv.wid, hv.set0, hv.set1⟩
  · have m := mpI_ok (s := s) (n := A 0 0) x0 x1
    rw [(delA_mp s x).1]; exact hv.num _ m.1 m.2.1
  · have m := mpI_ok (s := s) (n := A 0 0) (show 0 ≤ x by omega) x1
    have m2 := mpI_ok (s := s) (n := A 0 0) y0 (show y < A 0 0 - 1 by have x1 : x < A 0 0 - 1 := x1; omega)
    rw [(delA_mp s x).1, (delA_mp s y).1]; exact hv.numlt _ _ m2.1 (m.2.2 y yx) m.2.1
  · have m := mpI_ok (s := s) (n := A 0 0) x0 x1
    rw [(delA_mp s x).2.1]; exact hv.lane _ m.1 m.2.1
  · have m := mpI_ok (s := s) (n := A 0 0) x0 x1
    rw [(delA_mp s x).2.2.1, (delA_mp s x).2.2.2]; exact hv.day _ m.1 m.2.1
  · have m := mpI_ok (s := s) (n := A 0 0) x0 x1
    have m2 := mpI_ok (s := s) (n := A 0 0) y0 y1
    rw [(delA_mp s x).2.1, (delA_mp s y).2.1] at e
    rw [(delA_mp s x).2.2.1, (delA_mp s x).2.2.2, (delA_mp s y).2.2.1, (delA_mp s y).2.2.2]
    refine hv.apart _ _ m2.1 m2.2.1 m.1 m.2.1 (fun z => ?_) e
    rcases Int.lt_trichotomy y x with q | q | q
    · have := m.2.2 y q; omega
    · exact yx q
    · have := m2.2.2 x q; omega
theorem dropBarEnd_ok (hc : CV A M b) (hv : Val B A) {s c : Int} (s0 : 0 ≤ s) (s1 : s < A 0 0) (ho : offP A s 0) {Φ : Int → zM → Prop} (k : ∀ M', (∀ a, a < b ∨ b + 10 ≤ a → M' a = M a) → CV (delA A s) M' b → Φ c M') : i32 ((M b 0) - 1) ∧ ∀ M4 : zM, M4 = zup M b 0 ((M b 0) - 1) → zwh (fun K v => jC_dropBar_L59 b s K Φ c (v.1) (v.2)) (s, M4) := by
  have hn := hv.n
  have ha := hv.a
  rw [hc.n]
  refine ⟨by omega, ?_⟩
  rintro M0 e0
  have o0 : ∀ a, a ≠ b → M0 a = M a := fun a q => by rw [e0, zup_other q]
  have on : M0 b 0 = A 0 0 - 1 := by rw [e0, zup_at]
  have ob : ∀ x, x ≠ 0 → M0 b x = M b x := fun x q => by rw [e0, zup_ne q]
  refine zwh_run (fun v : Int × zM => s ≤ v.1 ∧ v.1 ≤ A 0 0 - 1 ∧ (∀ a, a ≠ b + 1 → a ≠ b + 2 → a ≠ b + 3 → a ≠ b + 4 → v.2 a = M0 a) ∧ ∀ x, 0 ≤ x → x < A 0 0 → v.2 (b + 1) x = (if s ≤ x ∧ x < v.1 then A 2 (x + 1) else A 2 x) ∧ v.2 (b + 2) x = (if s ≤ x ∧ x < v.1 then A 3 (x + 1) else A 3 x) ∧ v.2 (b + 3) x = (if s ≤ x ∧ x < v.1 then A 4 (x + 1) else A 4 x) ∧ v.2 (b + 4) x = (if s ≤ x ∧ x < v.1 then A 5 (x + 1) else A 5 x)) (fun v => (A 0 0 - v.1).toNat) ?_ (s, M0) ⟨Int.le_refl s, (show s ≤ A 0 0 - 1 by omega), fun _ _ _ _ _ => rfl, fun x x0 x1 => ?_⟩
  · rintro K ⟨y, M1⟩ ⟨y0, y1, hs, hx⟩ hK
    have y0 : s ≤ y := y0
    have y1 : y ≤ A 0 0 - 1 := y1
    have hs : ∀ a, a ≠ b + 1 → a ≠ b + 2 → a ≠ b + 3 → a ≠ b + 4 → M1 a = M0 a := hs
    have hxn : ∀ x, 0 ≤ x → x < A 0 0 → M1 (b + 1) x = (if s ≤ x ∧ x < y then A 2 (x + 1) else A 2 x) ∧ M1 (b + 2) x = (if s ≤ x ∧ x < y then A 3 (x + 1) else A 3 x) ∧ M1 (b + 3) x = (if s ≤ x ∧ x < y then A 4 (x + 1) else A 4 x) ∧ M1 (b + 4) x = (if s ≤ x ∧ x < y then A 5 (x + 1) else A 5 x) := hx
    show jC_dropBar_L59 b s K Φ c y M1
    unfold jC_dropBar_L59
    have oB : M1 b = M0 b := hs b (by omega) (by omega) (by omega) (by omega)
    rw [oB, on]
    refine ⟨fun q => ?_, fun q => ⟨by omega, by omega, by omega, by omega, by omega, ?_⟩⟩
    · have ey : y = A 0 0 - 1 := by omega
      subst ey
      clear hK
      have oz : ∀ a, a ≠ b → a ≠ b + 1 → a ≠ b + 2 → a ≠ b + 3 → a ≠ b + 4 → M1 a = M a := fun a q q1 q2 q3 q4 => (hs a q1 q2 q3 q4).trans (o0 a q)
      refine zwh_run (fun v : Int × zM => 0 ≤ v.1 ∧ v.1 ≤ A 6 0 ∧ (∀ a, a ≠ b + 6 → a ≠ b + 7 → v.2 a = M1 a) ∧ ∀ x, 0 ≤ x → x < A 6 0 → v.2 (b + 6) x = (if x < v.1 then delA A s 9 x else A 9 x) ∧ v.2 (b + 7) x = (if x < v.1 then delA A s 10 x else A 10 x)) (fun v => (A 6 0 - v.1).toNat) ?_ (0, M1) ⟨Int.le_refl 0, ha.1, fun _ _ _ => rfl, fun x x0 x1 => ?_⟩
      · rintro K ⟨z, M3⟩ ⟨z0, z1, hs3, hx3⟩ hK
        have z0 : 0 ≤ z := z0
        have z1 : z ≤ A 6 0 := z1
        have hs3n : ∀ a, a ≠ b + 6 → a ≠ b + 7 → M3 a = M1 a := hs3
        have hx3 : ∀ x, 0 ≤ x → x < A 6 0 → M3 (b + 6) x = (if x < z then delA A s 9 x else A 9 x) ∧ M3 (b + 7) x = (if x < z then delA A s 10 x else A 10 x) := hx3
        show jC_dropBar_L131 b s K Φ c z M3
        unfold jC_dropBar_L131
        have o3b : M3 b = M0 b := (hs3n b (by omega) (by omega)).trans oB
        rw [show M3 b 6 = A 6 0 by rw [o3b, ob 6 (by omega)]; exact hc.a]
        refine ⟨fun q2 => ?_, fun q2 => ?_⟩
        · have ez : z = A 6 0 := by omega
          subst ez
          have ozz : ∀ a, a ≠ b → a ≠ b + 1 → a ≠ b + 2 → a ≠ b + 3 → a ≠ b + 4 → a ≠ b + 6 → a ≠ b + 7 → M3 a = M a := fun a q q1 q2 q3 q4 q6 q7 => (hs3n a q6 q7).trans (oz a q q1 q2 q3 q4)
          refine k M3 (fun a q => ozz a (by omega) (by omega) (by omega) (by omega) (by omega) (by omega) (by omega)) ⟨by rw [o3b]; exact on, by rw [o3b, ob 1 (by omega)]; exact hc.ever, by rw [o3b, ob 6 (by omega)]; exact hc.a, by rw [o3b, ob 7 (by omega)]; exact hc.aever, by rw [o3b, ob 13 (by omega)]; exact hc.slip, fun x x0 x1 => ?_, fun x x0 x1 => ?_, fun x x0 x1 => ?_, fun x x0 x1 => ?_, fun x x0 x1 => ?_, fun x x0 x1 => ?_, fun x x0 x1 => ?_, fun x x0 x1 => ?_, fun x x0 x1 => ?_⟩
          · have x1 : x < A 0 0 - 1 := x1
            rw [hs3n _ (by omega) (by omega), (hxn x x0 (by omega)).1]
            by_cases q : x < s
            · rw [(delA_lt q).1, if_neg (by omega)]
            · rw [(delA_ge q).1, if_pos (by omega)]
          · have x1 : x < A 0 0 - 1 := x1
            rw [hs3n _ (by omega) (by omega), (hxn x x0 (by omega)).2.1]
            by_cases q : x < s
            · rw [(delA_lt q).2.1, if_neg (by omega)]
            · rw [(delA_ge q).2.1, if_pos (by omega)]
          · have x1 : x < A 0 0 - 1 := x1
            rw [hs3n _ (by omega) (by omega), (hxn x x0 (by omega)).2.2.1]
            by_cases q : x < s
            · rw [(delA_lt q).2.2.1, if_neg (by omega)]
            · rw [(delA_ge q).2.2.1, if_pos (by omega)]
          · have x1 : x < A 0 0 - 1 := x1
            rw [hs3n _ (by omega) (by omega), (hxn x x0 (by omega)).2.2.2]
            by_cases q : x < s
            · rw [(delA_lt q).2.2.2, if_neg (by omega)]
            · rw [(delA_ge q).2.2.2, if_pos (by omega)]
          · have x1 : x < A 6 0 := x1
            rw [ozz _ (by omega) (by omega) (by omega) (by omega) (by omega) (by omega) (by omega)]; exact hc.anum x x0 x1
          · have x1 : x < A 6 0 := x1
            rw [(hx3 x x0 x1).1, if_pos x1]
          · have x1 : x < A 6 0 := x1
            rw [(hx3 x x0 x1).2, if_pos x1]
          · rw [ozz _ (by omega) (by omega) (by omega) (by omega) (by omega) (by omega) (by omega)]; exact hc.wid x x0 x1
          · rw [ozz _ (by omega) (by omega) (by omega) (by omega) (by omega) (by omega) (by omega)]; exact hc.set x x0 x1
        · have hz := hx3 z z0 (by omega)
          rw [if_neg (by omega), if_neg (by omega)] at hz
          have fz := hv.from z z0 (by omega)
          have tz := hv.to z z0 (by omega)
          have fin2 : ∀ (M9 : zM) (u3 : Int), (0 ≤ u3 ∧ u3 ≤ 1) → A 10 z - u3 = delA A s 10 z → M9 (b + 6) z = delA A s 9 z → (∀ x, x ≠ z → M9 (b + 6) x = M3 (b + 6) x) → (∀ a, a ≠ b + 6 → M9 a = M3 a) → jC_dropBar_J185 b s K Φ c z z (A 10 z) u3 M9 := by
            intro M9 u3 hu h10 h9 h9o hso
            unfold jC_dropBar_J185
            refine ⟨by omega, by omega, by omega, ?_⟩
            rintro _ rfl
            refine ⟨by omega, ?_⟩
            rintro _ rfl
            rw [h10]
            refine hK (z + 1, zup M9 (b + 7) z (delA A s 10 z)) ⟨by show 0 ≤ z + 1; omega, by show z + 1 ≤ A 6 0; omega, fun a q6 q7 => (zup_other q7).trans ((hso a q6).trans (hs3n a q6 q7)), fun x x0 x1 => ?_⟩ (by show (A 6 0 - (z + 1)).toNat < (A 6 0 - z).toNat; omega)
            show zup M9 (b + 7) z (delA A s 10 z) (b + 6) x = (if x < z + 1 then delA A s 9 x else A 9 x) ∧ zup M9 (b + 7) z (delA A s 10 z) (b + 7) x = (if x < z + 1 then delA A s 10 x else A 10 x)
            rw [zup_other (show b + 6 ≠ b + 7 by omega)]
            have hxx := hx3 x x0 x1
            by_cases e : x = z
            · subst e
              rw [zup_at, if_pos (by omega), if_pos (by omega)]
              exact ⟨h9, rfl⟩
            · rw [zup_ne e, h9o x e, hso (b + 7) (by omega)]
              by_cases e2 : x < z
              · rw [if_pos e2, if_pos e2] at hxx
                rw [if_pos (by omega), if_pos (by omega)]; exact hxx
              · rw [if_neg e2, if_neg e2] at hxx
                rw [if_neg (by omega), if_neg (by omega)]; exact hxx
          have fin1 : ∀ u3 : Int, (0 ≤ u3 ∧ u3 ≤ 1) → A 9 z - u3 = delA A s 9 z → jC_dropBar_J161 b s K Φ c z z (A 9 z) u3 M3 := by
            intro u3 hu h9
            unfold jC_dropBar_J161
            refine ⟨by omega, by omega, by omega, ?_⟩
            rintro M9 e9
            have p7 : M9 (b + 7) z = A 10 z := by rw [e9, zup_other (by omega)]; exact hz.2
            rw [p7]
            have q9 : M9 (b + 6) z = delA A s 9 z := by rw [e9, zup_at]; exact h9
            have q9o : ∀ x, x ≠ z → M9 (b + 6) x = M3 (b + 6) x := fun x q => by rw [e9, zup_ne q]
            have qso : ∀ a, a ≠ b + 6 → M9 a = M3 a := fun a q => by rw [e9, zup_other q]
            refine ⟨by omega, by omega, by omega, by omega, fun w => fin2 M9 0 (by omega) ?_ q9 q9o qso, fun w => fin2 M9 1 (by omega) ?_ q9 q9o qso⟩
            · show A 10 z - 0 = (if A 10 z ≤ s then A 10 z else A 10 z - 1)
              rw [if_pos w]; omega
            · show A 10 z - 1 = (if A 10 z ≤ s then A 10 z else A 10 z - 1)
              rw [if_neg w]
          rw [hz.1]
          refine ⟨by omega, by omega, by omega, by omega, fun w => fin1 0 (by omega) ?_, fun w => fin1 1 (by omega) ?_⟩
          · show A 9 z - 0 = (if A 9 z ≤ s then A 9 z else A 9 z - 1)
            rw [if_pos w]; omega
          · show A 9 z - 1 = (if A 9 z ≤ s then A 9 z else A 9 z - 1)
            rw [if_neg w]
      · show M1 (b + 6) x = (if x < 0 then delA A s 9 x else A 9 x) ∧ M1 (b + 7) x = (if x < 0 then delA A s 10 x else A 10 x)
        rw [if_neg (by omega), if_neg (by omega), oz _ (by omega) (by omega) (by omega) (by omega) (by omega), oz _ (by omega) (by omega) (by omega) (by omega) (by omega)]
        exact ⟨hc.from x x0 x1, hc.to x x0 x1⟩
    · have h1 := hxn (y + 1) (by omega) (by omega)
      rw [if_neg (by omega), if_neg (by omega), if_neg (by omega), if_neg (by omega)] at h1
      rintro M6 e6
      refine ⟨by omega, by omega, by omega, by omega, by omega, ?_⟩
      rintro M10 e10
      refine ⟨by omega, by omega, by omega, by omega, by omega, ?_⟩
      rintro M14 e14
      refine ⟨by omega, by omega, by omega, by omega, by omega, ?_⟩
      rintro M18 e18
      refine ⟨by omega, ?_⟩
      rintro _ rfl
      have p6 : ∀ a, a ≠ b + 1 → M6 a = M1 a := fun a q => by rw [e6, zup_other q]
      have p10 : ∀ a, a ≠ b + 2 → M10 a = M6 a := fun a q => by rw [e10, zup_other q]
      have p14 : ∀ a, a ≠ b + 3 → M14 a = M10 a := fun a q => by rw [e14, zup_other q]
      have p18 : ∀ a, a ≠ b + 4 → M18 a = M14 a := fun a q => by rw [e18, zup_other q]
      refine hK (y + 1, M18) ⟨by show s ≤ y + 1; omega, by show y + 1 ≤ A 0 0 - 1; omega, fun a q1 q2 q3 q4 => by show M18 a = M0 a; rw [p18 a q4, p14 a q3, p10 a q2, p6 a q1]; exact hs a q1 q2 q3 q4, fun x x0 x1 => ?_⟩ (by show (A 0 0 - (y + 1)).toNat < (A 0 0 - y).toNat; omega)
      have hxx := hxn x x0 x1
      show M18 (b + 1) x = (if s ≤ x ∧ x < y + 1 then A 2 (x + 1) else A 2 x) ∧ M18 (b + 2) x = (if s ≤ x ∧ x < y + 1 then A 3 (x + 1) else A 3 x) ∧ M18 (b + 3) x = (if s ≤ x ∧ x < y + 1 then A 4 (x + 1) else A 4 x) ∧ M18 (b + 4) x = (if s ≤ x ∧ x < y + 1 then A 5 (x + 1) else A 5 x)
      rw [p18 (b + 1) (by omega), p14 (b + 1) (by omega), p10 (b + 1) (by omega), e6, p18 (b + 2) (by omega), p14 (b + 2) (by omega), e10, p18 (b + 3) (by omega), e14, e18]
      by_cases e : x = y
      · subst e
        rw [zup_at, zup_at, zup_at, zup_at, if_pos (by omega), if_pos (by omega), if_pos (by omega), if_pos (by omega), p6 (b + 2) (by omega), p10 (b + 3) (by omega), p6 (b + 3) (by omega), p14 (b + 4) (by omega), p10 (b + 4) (by omega), p6 (b + 4) (by omega)]
        exact h1
      · rw [zup_ne e, zup_ne e, zup_ne e, zup_ne e, p6 (b + 2) (by omega), p10 (b + 3) (by omega), p6 (b + 3) (by omega), p14 (b + 4) (by omega), p10 (b + 4) (by omega), p6 (b + 4) (by omega)]
        by_cases e2 : s ≤ x ∧ x < y
        · rw [if_pos e2, if_pos e2, if_pos e2, if_pos e2] at hxx
          rw [if_pos (by omega), if_pos (by omega), if_pos (by omega), if_pos (by omega)]
          exact hxx
        · rw [if_neg e2, if_neg e2, if_neg e2, if_neg e2] at hxx
          rw [if_neg (by omega), if_neg (by omega), if_neg (by omega), if_neg (by omega)]
          exact hxx
  · show M0 (b + 1) x = (if s ≤ x ∧ x < s then A 2 (x + 1) else A 2 x) ∧ M0 (b + 2) x = (if s ≤ x ∧ x < s then A 3 (x + 1) else A 3 x) ∧ M0 (b + 3) x = (if s ≤ x ∧ x < s then A 4 (x + 1) else A 4 x) ∧ M0 (b + 4) x = (if s ≤ x ∧ x < s then A 5 (x + 1) else A 5 x)
    rw [if_neg (by omega), if_neg (by omega), if_neg (by omega), if_neg (by omega), o0 _ (by omega), o0 _ (by omega), o0 _ (by omega), o0 _ (by omega)]
    exact ⟨hc.num x x0 x1, hc.lane x x0 x1, hc.first x x0 x1, hc.days x x0 x1⟩
theorem dropBar_ok (hc : CV A M b) (hv : Val B A) {s : Int} (s0 : 0 ≤ s) (s1 : s < A 0 0) {Φ : Int → zM → Prop} (k : ∀ M', (∀ a, a < b ∨ b + 10 ≤ a → M' a = M a) → CV (delA (dArr s (A 6 0).toNat A 0).1 s) M' b → Φ (dArr s (A 6 0).toNat A 0).2 M') : jC_dropBar b s M Φ := by
  have ha := hv.a
  unfold jC_dropBar
  rw [hc.a]
  refine ⟨by omega, ?_⟩
  rintro _ rfl
  refine zwh_run (fun v : Int × Int × zM => ∃ A1, Val B A1 ∧ CV A1 v.2.2 b ∧ A1 0 0 = A 0 0 ∧ -1 ≤ v.2.1 ∧ v.2.1 < A1 6 0 ∧ (∀ a, a < b ∨ b + 10 ≤ a → v.2.2 a = M a) ∧ (0 ≤ v.1 ∧ v.1 + A1 6 0 = A 6 0) ∧ offP A1 s (v.2.1 + 1) ∧ dArr s (v.2.1 + 1).toNat A1 v.1 = dArr s (A 6 0).toNat A 0) (fun v => (v.2.1 + 1).toNat) ?_ (0, A 6 0 - 1, M) ⟨A, hv, hc, rfl, (show -1 ≤ A 6 0 - 1 by omega), (show A 6 0 - 1 < A 6 0 by omega), fun _ _ => rfl, ⟨Int.le_refl 0, (show 0 + A 6 0 = A 6 0 by omega)⟩, fun k k0 k1 => by have k0 : A 6 0 - 1 + 1 ≤ k := k0; omega, by show dArr s (A 6 0 - 1 + 1).toNat A 0 = _; rw [show A 6 0 - 1 + 1 = A 6 0 by omega]⟩
  rintro K ⟨c, x, M1⟩ ⟨A1, hv1, hc1, en, x0, x1, hs, hcc, ho, hd⟩ hK
  have hc1 : CV A1 M1 b := hc1
  have x0 : -1 ≤ x := x0
  have x1 : x < A1 6 0 := x1
  have hs : ∀ a, a < b ∨ b + 10 ≤ a → M1 a = M a := hs
  have hcc : 0 ≤ c ∧ c + A1 6 0 = A 6 0 := hcc
  have ho : offP A1 s (x + 1) := ho
  have hd : dArr s (x + 1).toNat A1 c = dArr s (A 6 0).toNat A 0 := hd
  have ha1 := hv1.a
  show jC_dropBar_L9 b s K Φ c x M1
  unfold jC_dropBar_L9
  refine ⟨fun q => ?_, fun q => ?_⟩
  · have ex : x = -1 := by omega
    subst ex
    have hd2 : dArr s (A 6 0).toNat A 0 = (A1, c) := hd.symm
    rw [hd2] at k
    exact dropBarEnd_ok hc1 hv1 s0 (by omega) ho (fun M' hs' hc' => k M' (fun a q => (hs' a q).trans (hs a q)) hc')
  · have nn : ((x.toNat : Nat) : Int) = x := by omega
    have fin : (A1 9 x = s ∨ A1 10 x = s) → jC_dropBar_J33 b s K Φ c x M1 := by
      intro hp
      unfold jC_dropBar_J33
      refine dropArrow_ok hc1 hv1 (by omega) x1 (fun M2 hs2 hc2 => ⟨by omega, ?_⟩)
      rintro _ rfl
      refine ⟨by omega, ?_⟩
      rintro _ rfl
      refine hK (c + 1, x + -1, M2) ⟨drpA A1 x, drpA_val hv1 (by omega) x1, hc2, en, by show -1 ≤ x + -1; omega, by show x + -1 < A1 6 0 - 1; omega, fun a q => (hs2 a q).trans (hs a q), ⟨by show 0 ≤ c + 1; omega, by show c + 1 + (A1 6 0 - 1) = A 6 0; omega⟩, by show offP (drpA A1 x) s (x + -1 + 1); rw [show x + -1 + 1 = x by omega]; exact offP_drop ho, ?_⟩ (by show (x + -1 + 1).toNat < (x + 1).toNat; omega)
      show dArr s (x + -1 + 1).toNat (drpA A1 x) (c + 1) = dArr s (A 6 0).toNat A 0
      rw [← hd, show (x + 1).toNat = x.toNat + 1 by omega, dArr_t (by rw [nn]; exact hp), nn, show x + -1 + 1 = x by omega]
    rw [hc1.from x (by omega) x1, hc1.to x (by omega) x1]
    refine ⟨by omega, by omega, fun e => fin (Or.inl e), fun e => ⟨by omega, by omega, fun e2 => ⟨by omega, ?_⟩, fun e2 => fin (Or.inr e2)⟩⟩
    rintro _ rfl
    have hno : ¬ (A1 9 x = s ∨ A1 10 x = s) := fun z => by rcases z with z | z; exact e z; exact e2 z
    refine hK (c, x + -1, M1) ⟨A1, hv1, hc1, en, by show -1 ≤ x + -1; omega, by show x + -1 < A1 6 0; omega, hs, hcc, by show offP A1 s (x + -1 + 1); rw [show x + -1 + 1 = x by omega]; exact offP_stay ho hno, ?_⟩ (by show (x + -1 + 1).toNat < (x + 1).toNat; omega)
    show dArr s (x + -1 + 1).toNat A1 c = dArr s (A 6 0).toNat A 0
    rw [← hd, show (x + 1).toNat = x.toNat + 1 by omega, dArr_f (by rw [nn]; exact hno), show x + -1 + 1 = x by omega]
end AC

