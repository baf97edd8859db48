/-! the bend that is taken, the points; the class's side -/
def worthA (A : zA) (k c : Int) : Int := if A 12 0 = 0 then c - eF A k else if A 12 0 = 1 then fT A k - c else zabs (2 * c - (eF A k + fT A k))
def BendP (A : zA) (k c : Int) : Prop := (c = -5 ∧ ∀ d, ¬ freeP A k d) ∨ (freeP A k c ∧ ∀ d, freeP A k d → worthA A k c < worthA A k d ∨ (worthA A k c = worthA A k d ∧ c ≤ d))
noncomputable def bendA (A : zA) (k : Int) : Int := by classical exact if h : ∃ c, BendP A k c then Classical.choose h else -5
theorem bend_uniq {B : Int} {A : zA} (hv : Val B A) {k : Int} (k0 : 0 ≤ k) (k1 : k < A 6 0) {c d : Int} (hc : BendP A k c) (hd : BendP A k d) : c = d := by
  rcases hc with ⟨e1, n1⟩ | ⟨f1, m1⟩ <;> rcases hd with ⟨e2, n2⟩ | ⟨f2, m2⟩
  · omega
  · exact absurd f2 (n1 d)
  · exact absurd f1 (n2 c)
  · have := m1 d f2; have := m2 c f1; omega
theorem bendA_eq {B : Int} {A : zA} (hv : Val B A) {k : Int} (k0 : 0 ≤ k) (k1 : k < A 6 0) {c : Int} (hc : BendP A k c) : bendA A k = c := by
  have h : ∃ c, BendP A k c := ⟨c, hc⟩
  unfold bendA
  rw [dif_pos h]
  exact bend_uniq hv k0 k1 (Classical.choose_spec h) hc
theorem bendP_rng {A : zA} {k c : Int} (hc : BendP A k c) (h : c ≠ -5) : eF A k ≤ c ∧ c ≤ fT A k := by
  rcases hc with ⟨e1, _⟩ | ⟨f1, _⟩
  · exact absurd e1 h
  · exact f1.1
/-- a search of the best bend up to x -/
def BestP (A : zA) (k a x : Int) : Prop := (a = -5 ∧ ∀ d, d < x → ¬ freeP A k d) ∨ (a < x ∧ freeP A k a ∧ ∀ d, d < x → freeP A k d → worthA A k a < worthA A k d ∨ (worthA A k a = worthA A k d ∧ a ≤ d))
theorem best_end {A : zA} {k a x : Int} (h : BestP A k a x) (hx : ∀ d, x ≤ d → ¬ freeP A k d) : BendP A k a := by
  rcases h with ⟨e, n⟩ | ⟨_, f, m⟩
  · exact Or.inl ⟨e, fun d => if q : d < x then n d q else hx d (by omega)⟩
  · exact Or.inr ⟨f, fun d hd => if q : d < x then m d q hd else absurd hd (hx d (by omega))⟩
theorem best_skip {A : zA} {k a x : Int} (h : BestP A k a x) (hx : ¬ freeP A k x) : BestP A k a (x + 1) := by
  rcases h with ⟨e, n⟩ | ⟨l, f, m⟩
  · exact Or.inl ⟨e, fun d hd => if q : d = x then q ▸ hx else n d (by omega)⟩
  · exact Or.inr ⟨by omega, f, fun d hd h => if q : d = x then absurd (q ▸ h) hx else m d (by omega) h⟩
theorem best_take {A : zA} {k a x : Int} (h : BestP A k a x) (hx : freeP A k x) (hw : a = -5 ∨ worthA A k x < worthA A k a) (ha : a = -5 → ¬ freeP A k a) : BestP A k x (x + 1) := by
  refine Or.inr ⟨by omega, hx, fun d hd hf => ?_⟩
  by_cases q : d = x
  · subst q; exact Or.inr ⟨rfl, Int.le_refl _⟩
  · rcases h with ⟨e, n⟩ | ⟨l, f, m⟩
    · exact absurd hf (n d (by omega))
    · have h2 := m d (by omega) hf
      rcases hw with e | w
      · exact absurd f (ha e)
      · omega
theorem best_keep {A : zA} {k a x : Int} (h : BestP A k a x) (hx : freeP A k x) (ha : ¬ a = -5) (hw : worthA A k a ≤ worthA A k x) : BestP A k a (x + 1) := by
  rcases h with ⟨e, n⟩ | ⟨l, f, m⟩
  · exact absurd e ha
  · refine Or.inr ⟨by omega, f, fun d hd hf => ?_⟩
    by_cases q : d = x
    · subst q; omega
    · exact m d (by omega) hf
theorem zabs_rng {x : Int} (h : -1000 ≤ x ∧ x ≤ 1000) : 0 ≤ zabs x ∧ zabs x ≤ 1000 := by unfold zabs; split <;> omega
noncomputable def undrA (A : zA) : Int := cntA (fun k => decide (bendA A k = -5)) (A 6 0)
section RD
variable {A : zA} {M : zM} {b : Nat} {B : Int} {Φ : Int → Prop}
theorem free_iff (hv : Val B A) (hb : BarredP A M) {k c hi lo : Int} (k0 : 0 ≤ k) (k1 : k < A 6 0) (hhi : HiP A k hi) (hlo : LoP A k lo) (c0 : lo ≤ c) (c1 : c ≤ hi) : zand (M 84 c) (lmask (min (lF A k) (lT A k)) (max (lF A k) (lT A k))) = 0 ↔ freeP A k c := by
  have e1 := eF_rng hv k0 k1
  have e2 := fT_rng hv k0 k1
  have r : eF A k ≤ c ∧ c ≤ fT A k := ⟨by have := hlo.1; omega, by have := hhi.1; omega⟩
  rw [barred_iff hv hb k0 k1 (by omega) (by omega)]
  constructor
  · exact fun q => ⟨r, (hi_iff hv k0 k1 hhi r).mp c1, (lo_iff hv k0 k1 hlo r).mp c0, q⟩
  · exact fun q => q.2.2.2
theorem free_rng (hv : Val B A) {k c hi lo : Int} (k0 : 0 ≤ k) (k1 : k < A 6 0) (hhi : HiP A k hi) (hlo : LoP A k lo) (h : freeP A k c) : lo ≤ c ∧ c ≤ hi :=
  ⟨(lo_iff hv k0 k1 hlo h.1).mpr h.2.2.1, (hi_iff hv k0 k1 hhi h.1).mpr h.2.1⟩
theorem choose_ok (hc : CV A M b) (hv : Val B A) (hbar : BarredP A M) {k : Int} (h0 : 0 ≤ k) (h1 : k < A 6 0) (h : BendP A k (bendA A k) → Φ (bendA A k)) : jD_choose b k M Φ := by
  have hn := hv.n
  have ha := hv.a
  have e1 := eF_rng hv h0 h1
  have e2 := fT_rng hv h0 h1
  have s0 := hv.set0
  have c5_k := hc.anum k (by omega) (by omega)
  have c6_k := hc.from k (by omega) (by omega)
  have c7_k := hc.to k (by omega) (by omega)
  have v5_k := hv.anum k (by omega) (by omega)
  have v6_k := hv.from k (by omega) (by omega)
  have v7_k := hv.to k (by omega) (by omega)
  have fin : ∀ c, BendP A k c → Φ c := fun c hb => by
    have e := bendA_eq hv h0 h1 hb
    rw [e] at h
    exact h hb
  unfold jD_choose
  rw [c6_k, c7_k, hc.set 0 (by omega) (by omega), hc.first (A 10 k) v7_k.1 v7_k.2]
  rintro _ rfl
  refine ⟨by omega, by omega, endOf_ok hc hv v6_k.1 v6_k.2 ?_⟩
  have f4 : A 4 (A 10 k) = fT A k := rfl
  have f5 : A 4 (A 9 k) + A 5 (A 9 k) = eF A k := rfl
  rw [f4]
  show 0 ≤ k ∧ k < 40 ∧ 0 ≤ A 10 k ∧ A 10 k < 30 ∧ i32 (A 4 (A 9 k) + A 5 (A 9 k) + fT A k) ∧ _
  rw [f5]
  refine ⟨by omega, by omega, by omega, by omega, by omega, ?_⟩
  rintro _ rfl
  refine lanesBetween_ok hc hv h0 h1 (highest_ok hc hv h0 h1 (fun hi hhi => lowest_ok hc hv h0 h1 (fun lo hlo => ?_)))
  have lo1 := hlo.1
  have hi1 := hhi.1
  have n5 : ¬ freeP A k (-5) := fun z => by have := z.1; omega
  refine zwh_run (fun s => lo ≤ s.2 ∧ (s.2 ≤ hi + 1 ∨ s.2 = lo) ∧ BestP A k s.1 s.2 ∧ (s.1 = -5 ∨ A 12 0 ≠ 0)) (fun s => (hi + 1 - s.2).toNat) ?_ (-5, lo) ⟨Int.le_refl _, Or.inr rfl, Or.inl ⟨rfl, fun d hd hf => ?_⟩, Or.inl rfl⟩
  · rintro K ⟨a, x⟩ ⟨x0, x1, hbest, hch⟩ hK
    have x0 : lo ≤ x := x0
    have x1 : x ≤ hi + 1 ∨ x = lo := x1
    have hbest : BestP A k a x := hbest
    have hch : a = -5 ∨ A 12 0 ≠ 0 := hch
    show jD_choose_L59 b k K Φ (A 12 0) (eF A k + fT A k) (lmask (min (lF A k) (lT A k)) (max (lF A k) (lT A k))) hi M a x
    have nx : ∀ a', x ≤ hi → BestP A k a' (x + 1) → (a' = -5 ∨ A 12 0 ≠ 0) → (i32 (x + 1) ∧ ∀ v : Int, v = x + 1 → K (a', v)) := fun a' q1 q2 q3 => ⟨by omega, fun v hv => hv ▸ hK (a', x + 1) ⟨by show lo ≤ x + 1; omega, Or.inl (by show x + 1 ≤ hi + 1; omega), q2, q3⟩ (by show (hi + 1 - (x + 1)).toNat < (hi + 1 - x).toNat; omega)⟩
    unfold jD_choose_L59
    refine ⟨fun q => fin a (best_end hbest (fun d hd hf => by have := free_rng hv h0 h1 hhi hlo hf; omega)), fun q => ⟨by omega, by omega, fun q2 => ?_, fun q2 => nx a (by omega) (best_skip hbest (fun z => q2 ((free_iff hv hbar h0 h1 hhi hlo x0 (by omega)).mpr z))) hch⟩⟩
    have hf := (free_iff hv hbar h0 h1 hhi hlo x0 (by omega)).mp q2
    have rf := hf.1
    refine ⟨fun q3 => ⟨fun q4 => nx x (by omega) (best_take hbest hf (Or.inl q4) (fun _ => q4 ▸ n5)) (Or.inr q3), fun q4 => ?_⟩, fun q3 => ?_⟩
    · have ra : eF A k ≤ a ∧ a ≤ fT A k ∧ a < x := by
        rcases hbest with ⟨e, _⟩ | ⟨l, f, _⟩
        · exact absurd e q4
        · exact ⟨f.1.1, f.1.2, l⟩
      refine ⟨fun q5 => nx x (by omega) (best_take hbest hf (Or.inr ?_) (fun e => absurd e q4)) (Or.inr q3), fun q5 => ⟨by omega, by omega, ?_, by omega, by omega, ?_, fun q6 => ?_, fun q6 => ?_⟩⟩
      · unfold worthA
        rw [if_neg q3, if_pos q5, if_neg q3, if_pos q5]
        omega
      · have := zabs_rng (x := 2 * x - (eF A k + fT A k)) (by omega); omega
      · have := zabs_rng (x := 2 * a - (eF A k + fT A k)) (by omega); omega
      · exact nx a (by omega) (best_keep hbest hf q4 (by unfold worthA; rw [if_neg q3, if_neg q5, if_neg q3, if_neg q5]; exact q6)) (Or.inr q3)
      · exact nx x (by omega) (best_take hbest hf (Or.inr (by unfold worthA; rw [if_neg q3, if_neg q5, if_neg q3, if_neg q5]; omega)) (fun e => absurd e q4)) (Or.inr q3)
    · refine fin x (Or.inr ⟨hf, fun d hd => ?_⟩)
      have hnone : ∀ d, d < x → ¬ freeP A k d := by
        rcases hbest with ⟨_, n⟩ | ⟨l, f, _⟩
        · exact n
        · rcases hch with e | e
          · exact absurd (e ▸ f) n5
          · exact absurd q3 e
      have hdx : x ≤ d := Int.not_lt.mp (fun z => hnone d z hd)
      unfold worthA
      rw [if_pos q3, if_pos q3]
      omega
  · have := free_rng hv h0 h1 hhi hlo hf
    have hd : d < lo := hd
    omega
noncomputable def freeN (A : zA) (k : Int) : Int := by classical exact cntA (fun c => decide (freeP A k c)) 200
theorem freeBends_ok (hc : CV A M b) (hv : Val B A) (hbar : BarredP A M) {k : Int} (h0 : 0 ≤ k) (h1 : k < A 6 0) (h : Φ (freeN A k)) : jD_freeBends b k M Φ := by
  classical
  have e1 := eF_rng hv h0 h1
  have e2 := fT_rng hv h0 h1
  unfold jD_freeBends
  refine lanesBetween_ok hc hv h0 h1 (highest_ok hc hv h0 h1 (fun hi hhi => lowest_ok hc hv h0 h1 (fun lo hlo => ?_)))
  have lo1 := hlo.1
  have hi1 := hhi.1
  have lo2 : lo ≤ 200 := by
    rcases hlo.2.2 with e | ⟨j, j0, j1, _, _, e⟩
    · omega
    · have := hv.day j j0 j1; unfold endA at e; omega
  have hlast : ∀ x, lo ≤ x → hi < x → x ≤ 200 → cntA (fun c => decide (freeP A k c)) x = freeN A k := fun x q0 q1 q2 => (cntA_const (by omega) q2 (fun j j0 j1 z => by have := free_rng hv h0 h1 hhi hlo (decide_eq_true_iff.mp z); omega)).symm
  refine zwh_run (fun s => lo ≤ s.2 ∧ (s.2 ≤ hi + 1 ∨ s.2 = lo) ∧ s.1 = cntA (fun c => decide (freeP A k c)) s.2) (fun s => (hi + 1 - s.2).toNat) ?_ (0, lo) ⟨Int.le_refl _, Or.inr rfl, (cntA_zero (by omega) (fun j j0 j1 z => by have := free_rng hv h0 h1 hhi hlo (decide_eq_true_iff.mp z); omega)).symm⟩
  rintro K ⟨a, x⟩ ⟨x0, x1, ea⟩ hK
  have x0 : lo ≤ x := x0
  have x1 : x ≤ hi + 1 ∨ x = lo := x1
  have ea : a = cntA (fun c => decide (freeP A k c)) x := ea
  subst ea
  have hg := cntA_rng (p := fun c => decide (freeP A k c)) (n := x) (by omega)
  show jD_freeBends_L26 b k K Φ (lmask (min (lF A k) (lT A k)) (max (lF A k) (lT A k))) hi M (cntA (fun c => decide (freeP A k c)) x) x
  unfold jD_freeBends_L26
  refine ⟨fun q => ?_, fun q => ⟨by omega, by omega, fun q2 => ⟨by omega, ?_⟩, fun q2 => ⟨by omega, ?_⟩⟩⟩
  · rw [hlast x x0 (by omega) (by omega)]; exact h
  · rintro _ rfl
    refine ⟨by omega, ?_⟩
    rintro _ rfl
    exact hK _ ⟨by show lo ≤ x + 1; omega, Or.inl (by show x + 1 ≤ hi + 1; omega), (cntA_f (by omega) (fun z => q2 ((free_iff hv hbar h0 h1 hhi hlo x0 (by omega)).mpr (decide_eq_true_iff.mp z)))).symm⟩ (by show (hi + 1 - (x + 1)).toNat < (hi + 1 - x).toNat; omega)
  · rintro _ rfl
    refine ⟨by omega, ?_⟩
    rintro _ rfl
    exact hK _ ⟨by show lo ≤ x + 1; omega, Or.inl (by show x + 1 ≤ hi + 1; omega), (cntA_t (by omega) (decide_eq_true_iff.mpr ((free_iff hv hbar h0 h1 hhi hlo x0 (by omega)).mp q2))).symm⟩ (by show (hi + 1 - (x + 1)).toNat < (hi + 1 - x).toNat; omega)
/-- what a drawing leaves -/
def DrawP (A : zA) (M : zM) : Prop := BarredP A M ∧ (∀ k, 0 ≤ k → k < A 6 0 → M 83 k = bendA A k ∧ BendP A k (bendA A k)) ∧ M 82 1 = undrA A
def smD (M M' : zM) : Prop := ∀ a, a ≠ 82 → a ≠ 83 → a ≠ 84 → M' a = M a
theorem smD.cv {M M' : zM} (h : smD M M') (hb : zCh b) (hc : CV A M b) : CV A M' b := hc.same (fun a a0 a1 => h a (by have := hb.lt; omega) (by have := hb.lt; omega) (by have := hb.lt; omega))
theorem undr_rng (hv : Val B A) : 0 ≤ undrA A ∧ undrA A ≤ 40 := by
  have ha := hv.a
  have := cntA_rng (p := fun k => decide (bendA A k = -5)) ha.1
  unfold undrA; omega
theorem draw_ok (hc : CV A M b) (hv : Val B A) (hb : zCh b) {Φ : zM → Prop} (h : ∀ M', smD M M' → DrawP A M' → Φ M') : jD_draw b M Φ := by
  have ha := hv.a
  have hb2 := hb.lt
  unfold jD_draw
  refine readBars_ok hc hv hb (fun M1 hs1 hbar1 => ?_)
  rintro _ rfl
  refine zwh_run (fun s => 0 ≤ s.1 ∧ s.1 ≤ A 6 0 ∧ smD M s.2 ∧ BarredP A s.2 ∧ (∀ k, 0 ≤ k → k < s.1 → s.2 83 k = bendA A k ∧ BendP A k (bendA A k)) ∧ s.2 82 1 = cntA (fun k => decide (bendA A k = -5)) s.1) (fun s => (A 6 0 - s.1).toNat) ?_ (0, _) ⟨Int.le_refl 0, ha.1, fun a a0 a1 a2 => ?_, fun c c0 c1 i i0 i1 => ?_, fun k k0 k1 => ?_, ?_⟩
  · rintro K ⟨x, M2⟩ ⟨x0, x1, hs, hbar, hbe, hu⟩ hK
    have x0 : 0 ≤ x := x0
    have x1 : x ≤ A 6 0 := x1
    have hs : smD M M2 := hs
    have hbar : BarredP A M2 := hbar
    have hbe : ∀ k, 0 ≤ k → k < x → M2 83 k = bendA A k ∧ BendP A k (bendA A k) := hbe
    have hu : M2 82 1 = cntA (fun k => decide (bendA A k = -5)) x := hu
    have hc2 := hs.cv hb hc
    show jD_draw_L12 b K Φ x M2
    unfold jD_draw_L12
    rw [hc2.a]
    refine ⟨fun q => ?_, fun q => ?_⟩
    · have e : x = A 6 0 := by omega
      subst e
      exact h M2 hs ⟨hbar, hbe, hu⟩
    · refine choose_ok hc2 hv hbar x0 (by omega) (fun hbp => ⟨by omega, by omega, ?_⟩)
      rintro M3 rfl
      have hg := cntA_rng (p := fun k => decide (bendA A k = -5)) x0
      have e83 : zup M2 83 x (bendA A x) 83 x = bendA A x := by unfold zup; rw [if_pos ⟨rfl, rfl⟩]
      have e82 : zup M2 83 x (bendA A x) 82 1 = cntA (fun k => decide (bendA A k = -5)) x := by rw [zup_other (by omega)]; exact hu
      have key : ∀ t : Int, (t = 0 ∨ t = 1) → cntA (fun k => decide (bendA A k = -5)) (x + 1) = cntA (fun k => decide (bendA A k = -5)) x + t → jD_draw_J53 b K Φ x (zup M2 83 x (bendA A x) 82 1) t (zup M2 83 x (bendA A x)) := by
        intro t ht et
        rw [e82]
        refine ⟨by omega, ?_⟩
        rintro _ rfl
        refine ⟨by omega, ?_⟩
        rintro _ rfl
        refine hK (x + 1, _) ⟨by show 0 ≤ x + 1; omega, by show x + 1 ≤ A 6 0; omega, fun a a0 a1 a2 => by rw [← hs a a0 a1 a2]; show zup (zup M2 83 x (bendA A x)) 82 1 (cntA (fun k => decide (bendA A k = -5)) x + t) a = M2 a; rw [zup_other a0, zup_other a1], fun c c0 c1 i i0 i1 => ?_, fun k k0 k1 => ?_, ?_⟩ (by show (A 6 0 - (x + 1)).toNat < (A 6 0 - x).toNat; omega)
        · show bI (zup (zup M2 83 x (bendA A x)) 82 1 (cntA (fun k => decide (bendA A k = -5)) x + t) 84 c) i = true ↔ _
          rw [zup_other (by omega), zup_other (by omega)]
          exact hbar c c0 c1 i i0 i1
        · show zup (zup M2 83 x (bendA A x)) 82 1 (cntA (fun k => decide (bendA A k = -5)) x + t) 83 k = bendA A k ∧ _
          rw [zup_other (by omega)]
          have k1 : k < x + 1 := k1
          by_cases e : k = x
          · subst e; exact ⟨e83, hbp⟩
          · have := hbe k k0 (by omega)
            refine ⟨?_, this.2⟩
            unfold zup
            rw [if_neg (by omega)]
            exact this.1
        · show zup (zup M2 83 x (bendA A x)) 82 1 (cntA (fun k => decide (bendA A k = -5)) x + t) 82 1 = _
          unfold zup
          rw [if_pos ⟨rfl, rfl⟩, et]
      rw [e83]
      refine ⟨by omega, by omega, fun q2 => key 0 (Or.inl rfl) (cntA_f x0 (by rw [decide_eq_true_iff]; exact q2)), fun q2 => key 1 (Or.inr rfl) (cntA_t x0 (by rw [decide_eq_true_iff]; exact q2))⟩
  · show zup M1 82 1 0 a = M a
    rw [zup_other a0]
    exact hs1 a a2
  · show bI (zup M1 82 1 0 84 c) i = true ↔ _
    rw [zup_other (by omega)]
    exact hbar1 c c0 c1 i i0 i1
  · have k1 : k < 0 := k1
    omega
  · show zup M1 82 1 0 82 1 = _
    unfold zup
    rw [if_pos ⟨rfl, rfl⟩]
    rfl
/-- an arrow goes along a lane on a day -/
def goesP (A : zA) (o w d : Int) : Prop := (d < bendA A o → w = lF A o ∧ eF A o ≤ d) ∧ (bendA A o ≤ d → w = lT A o ∧ d < fT A o)
theorem goesAlong_ok (hc : CV A M b) (hv : Val B A) (hd : DrawP A M) {o w d : Int} (h0 : 0 ≤ o) (h1 : o < A 6 0) (ht : goesP A o w d → Φ 1) (hf : ¬ goesP A o w d → Φ 0) : jD_goesAlong b o w d M Φ := by
  have hn := hv.n
  have ha := hv.a
  have c5_o := hc.anum o (by omega) (by omega)
  have c6_o := hc.from o (by omega) (by omega)
  have c7_o := hc.to o (by omega) (by omega)
  have v5_o := hv.anum o (by omega) (by omega)
  have v6_o := hv.from o (by omega) (by omega)
  have v7_o := hv.to o (by omega) (by omega)
  have hb := (hd.2.1 o h0 h1).1
  unfold jD_goesAlong
  rw [c6_o, c7_o, hb]
  refine ⟨by omega, by omega, ?_⟩
  rintro _ rfl
  refine ⟨by omega, by omega, ?_⟩
  rintro _ rfl
  rw [hc.lane (A 10 o) v7_o.1 v7_o.2, hc.lane (A 9 o) v6_o.1 v6_o.2, hc.first (A 10 o) v7_o.1 v7_o.2]
  refine ⟨by omega, by omega, fun q => ⟨by omega, by omega, fun q2 => hf (fun z => q2 (z.2 q).1), fun q2 => ⟨by omega, by omega, fun q3 => hf (fun z => by have := (z.2 q).2; unfold fT at this; omega), fun q3 => ht ⟨fun z => by omega, fun _ => ⟨q2, by unfold fT; omega⟩⟩⟩⟩, fun q => ⟨by omega, by omega, fun q2 => hf (fun z => q2 (z.1 (by omega)).1), fun q2 => endOf_ok hc hv v6_o.1 v6_o.2 ⟨fun q3 => hf (fun z => by have := (z.1 (by omega)).2; unfold eF endA at this; omega), fun q3 => ht ⟨fun _ => ⟨q2, by unfold eF endA; omega⟩, fun z => by omega⟩⟩⟩⟩
def passP (A : zA) (k o w : Int) : Prop := (min (lF A k) (lT A k) < w ∧ w < max (lF A k) (lT A k)) ∧ goesP A o w (bendA A k - 1) ∧ goesP A o w (bendA A k)
theorem passesThrough_ok (hc : CV A M b) (hv : Val B A) (hd : DrawP A M) {k o w : Int} (k0 : 0 ≤ k) (k1 : k < A 6 0) (h0 : 0 ≤ o) (h1 : o < A 6 0) (hw : 0 ≤ w ∧ w < 12) (hk : bendA A k ≠ -5) (ht : passP A k o w → Φ 1) (hf : ¬ passP A k o w → Φ 0) : jD_passesThrough b k o w M Φ := by
  have ha := hv.a
  have v6 := hv.from k k0 k1
  have v7 := hv.to k k0 k1
  have l1 := hv.lane (A 9 k) v6.1 v6.2
  have l2 := hv.lane (A 10 k) v7.1 v7.2
  have e1 := eF_rng hv k0 k1
  have e2 := fT_rng hv k0 k1
  have hb := hd.2.1 k k0 k1
  have hr := bendP_rng hb.2 hk
  have lm := (lm_ok (lo := min (lF A k) (lT A k)) (hi := max (lF A k) (lT A k)) (i := w) (by unfold lF lT; omega) (by unfold lF lT; omega) (by omega)).2
  unfold jD_passesThrough
  refine lanesBetween_ok hc hv k0 k1 ?_
  rw [hb.1]
  refine ⟨fun q => hf (fun z => q ((zbit_1 (by omega)).mpr (by rw [lm, decide_eq_true_iff]; exact z.1))), fun q => ⟨by omega, by omega, by omega, ?_⟩⟩
  have q2 := (zbit_1 (by omega)).mp q
  rw [lm, decide_eq_true_iff] at q2
  refine goesAlong_ok hc hv hd h0 h1 (fun g1 => ⟨fun z => by omega, fun _ => ⟨by omega, by omega, goesAlong_ok hc hv hd h0 h1 (fun g2 => ⟨fun z => by omega, fun _ => ht ⟨q2, g1, g2⟩⟩) (fun g2 => ⟨fun _ => hf (fun z => g2 z.2.2), fun z => absurd rfl z⟩)⟩⟩) (fun g1 => ⟨fun _ => hf (fun z => g1 z.2.1), fun z => absurd rfl z⟩)
def crossP (A : zA) (k o : Int) : Prop := bendA A k ≠ -5 ∧ bendA A o ≠ -5 ∧ ∃ w, 0 ≤ w ∧ w < 12 ∧ passP A k o w
noncomputable def crossN (A : zA) (k o : Int) : Int := by classical exact if crossP A k o then 1 else 0
theorem crossN_t {k o : Int} (h : crossP A k o) : crossN A k o = 1 := by unfold crossN; rw [if_pos h]
theorem crossN_f {k o : Int} (h : ¬ crossP A k o) : crossN A k o = 0 := by unfold crossN; rw [if_neg h]
theorem crossN_rng (k o : Int) : 0 ≤ crossN A k o ∧ crossN A k o ≤ 1 := by
  by_cases h : crossP A k o
  · rw [crossN_t h]; omega
  · rw [crossN_f h]; omega
theorem pass_lane {k o w : Int} (h : passP A k o w) : w = lF A o ∨ w = lT A o := by
  rcases Int.lt_or_le (bendA A k) (bendA A o) with q | q
  · exact Or.inl (h.2.2.1 q).1
  · exact Or.inr (h.2.2.2 q).1
theorem crosses_ok (hc : CV A M b) (hv : Val B A) (hd : DrawP A M) {k o : Int} (k0 : 0 ≤ k) (k1 : k < A 6 0) (h0 : 0 ≤ o) (h1 : o < A 6 0) (ht : crossP A k o → Φ 1) (hf : ¬ crossP A k o → Φ 0) : jD_crosses b k o M Φ := by
  have hn := hv.n
  have ha := hv.a
  have v6 := hv.from o h0 h1
  have v7 := hv.to o h0 h1
  have l1 := hv.lane (A 9 o) v6.1 v6.2
  have l2 := hv.lane (A 10 o) v7.1 v7.2
  unfold jD_crosses
  rw [(hd.2.1 k k0 k1).1, (hd.2.1 o h0 h1).1, hc.from o h0 h1, hc.to o h0 h1, hc.lane (A 9 o) v6.1 v6.2, hc.lane (A 10 o) v7.1 v7.2]
  refine ⟨by omega, by omega, fun q => hf (fun z => z.1 q), fun q => ⟨by omega, by omega, fun q2 => ⟨by omega, by omega, by omega, by omega, ?_⟩, fun q2 => hf (fun z => z.2.1 q2)⟩⟩
  refine passesThrough_ok hc hv hd k0 k1 h0 h1 l1 q (fun p1 => ⟨fun _ => ht ⟨q, q2, _, l1.1, l1.2, p1⟩, fun z => by omega⟩) (fun p1 => ⟨fun z => absurd rfl z, fun _ => ⟨by omega, by omega, by omega, by omega, ?_⟩⟩)
  refine passesThrough_ok hc hv hd k0 k1 h0 h1 l2 q (fun p2 => ⟨fun z => by omega, fun _ => ht ⟨q, q2, _, l2.1, l2.2, p2⟩⟩) (fun p2 => ⟨fun _ => hf (fun z => ?_), fun z => absurd rfl z⟩)
  obtain ⟨_, _, w, _, _, hw⟩ := z
  rcases pass_lane hw with e | e
  · exact p1 (by have e2 : A 3 (A 9 o) = lF A o := rfl; rw [e2, ← e]; exact hw)
  · exact p2 (by have e2 : A 3 (A 10 o) = lT A o := rfl; rw [e2, ← e]; exact hw)
noncomputable def ptsA (A : zA) : Int := sumI (fun k => sumI (crossN A k) (A 6 0)) (A 6 0)
noncomputable def ptsOf (A : zA) (k : Int) : Int := sumI (fun o => crossN A k o + crossN A o k) (A 6 0)
theorem row_rng (hv : Val B A) (k : Int) {x : Int} (h0 : 0 ≤ x) (h1 : x ≤ A 6 0) : 0 ≤ sumI (crossN A k) x ∧ sumI (crossN A k) x ≤ 40 := by
  have ha := hv.a
  have := sumI_rng (f := crossN A k) (c := 1) h0 (fun j _ _ => crossN_rng k j)
  omega
theorem rows_rng (hv : Val B A) {x : Int} (h0 : 0 ≤ x) (h1 : x ≤ A 6 0) : 0 ≤ sumI (fun k => sumI (crossN A k) (A 6 0)) x ∧ sumI (fun k => sumI (crossN A k) (A 6 0)) x ≤ 1600 := by
  have ha := hv.a
  have := sumI_rng (f := fun k => sumI (crossN A k) (A 6 0)) (c := 40) h0 (fun j _ _ => row_rng hv j ha.1 (Int.le_refl _))
  omega
theorem pointsInAll_ok (hc : CV A M b) (hv : Val B A) (hd : DrawP A M) (h : Φ (ptsA A)) : jD_pointsInAll b M Φ := by
  have ha := hv.a
  unfold jD_pointsInAll
  refine zfor2 (fun x => sumI (fun k => sumI (crossN A k) (A 6 0)) x) (n := A 6 0) ha.1 rfl (fun K => ?_) (fun K x x0 x1 hK => ?_)
  · show jD_pointsInAll_L4 b K Φ M (ptsA A) (A 6 0)
    unfold jD_pointsInAll_L4
    rw [hc.a]
    exact ⟨fun _ => h, fun q => absurd (Int.le_refl _) q⟩
  · show jD_pointsInAll_L4 b K Φ M (sumI (fun k => sumI (crossN A k) (A 6 0)) x) x
    have g1 := rows_rng hv x0 (Int.le_of_lt x1)
    unfold jD_pointsInAll_L4
    rw [hc.a]
    refine ⟨fun q => by omega, fun q => ?_⟩
    refine zfor2 (fun y => sumI (fun k => sumI (crossN A k) (A 6 0)) x + sumI (crossN A x) y) (n := A 6 0) ha.1 (by rw [sumI_0]; omega) (fun K2 => ?_) (fun K2 y y0 y1 hK2 => ?_)
    · show jD_pointsInAll_L15 b K K2 Φ x M _ (A 6 0)
      unfold jD_pointsInAll_L15
      rw [hc.a]
      refine ⟨fun _ => ⟨by omega, ?_⟩, fun q => absurd (Int.le_refl _) q⟩
      rintro _ rfl
      rw [sumI_s _ x0] at hK
      exact hK
    · show jD_pointsInAll_L15 b K K2 Φ x M (sumI (fun k => sumI (crossN A k) (A 6 0)) x + sumI (crossN A x) y) y
      have g2 := row_rng hv x y0 (Int.le_of_lt y1)
      unfold jD_pointsInAll_L15
      rw [hc.a]
      rw [sumI_s _ y0] at hK2
      refine ⟨fun q => by omega, fun q => crosses_ok hc hv hd x0 x1 y0 y1 (fun p => ⟨fun z => by omega, fun _ => ⟨by omega, ?_⟩⟩) (fun p => ⟨fun _ => ⟨by omega, ?_⟩, fun z => absurd rfl z⟩)⟩
      · rintro _ rfl
        refine ⟨by omega, ?_⟩
        rintro _ rfl
        rw [crossN_t p] at hK2
        rw [show sumI (fun k => sumI (crossN A k) (A 6 0)) x + sumI (crossN A x) y + 1 = sumI (fun k => sumI (crossN A k) (A 6 0)) x + (sumI (crossN A x) y + 1) by omega]
        exact hK2
      · rintro _ rfl
        refine ⟨by omega, ?_⟩
        rintro _ rfl
        rw [crossN_f p] at hK2
        rw [show sumI (fun k => sumI (crossN A k) (A 6 0)) x + sumI (crossN A x) y + 0 = sumI (fun k => sumI (crossN A k) (A 6 0)) x + (sumI (crossN A x) y + 0) by omega]
        exact hK2
theorem ptsOf_part (hv : Val B A) (k : Int) {x : Int} (h0 : 0 ≤ x) (h1 : x ≤ A 6 0) : 0 ≤ sumI (fun o => crossN A k o + crossN A o k) x ∧ sumI (fun o => crossN A k o + crossN A o k) x ≤ 80 := by
  have ha := hv.a
  have := sumI_rng (f := fun o => crossN A k o + crossN A o k) (c := 2) h0 (fun j _ _ => by have := crossN_rng (A := A) k j; have := crossN_rng (A := A) j k; show 0 ≤ crossN A k j + crossN A j k ∧ crossN A k j + crossN A j k ≤ 2; omega)
  omega
theorem pointsOf_ok (hc : CV A M b) (hv : Val B A) (hd : DrawP A M) {k : Int} (k0 : 0 ≤ k) (k1 : k < A 6 0) (h : Φ (ptsOf A k)) : jD_pointsOf b k M Φ := by
  have ha := hv.a
  unfold jD_pointsOf
  refine zfor2 (fun x => sumI (fun o => crossN A k o + crossN A o k) x) (n := A 6 0) ha.1 rfl (fun K => ?_) (fun K x x0 x1 hK => ?_)
  · show jD_pointsOf_L5 b k K Φ M (ptsOf A k) (A 6 0)
    unfold jD_pointsOf_L5
    rw [hc.a]
    exact ⟨fun _ => h, fun q => absurd (Int.le_refl _) q⟩
  · show jD_pointsOf_L5 b k K Φ M (sumI (fun o => crossN A k o + crossN A o k) x) x
    have g1 := ptsOf_part hv k x0 (Int.le_of_lt x1)
    rw [sumI_s _ x0] at hK
    have second : ∀ t : Int, (t = 0 ∨ t = 1) → crossN A k x = t → jD_pointsOf_J31 b k K Φ x (sumI (fun o => crossN A k o + crossN A o k) x) t M := by
      intro t ht et
      rw [et] at hK
      refine ⟨by omega, ?_⟩
      rintro _ rfl
      refine crosses_ok hc hv hd x0 x1 k0 k1 (fun p => ⟨fun z => by omega, fun _ => ⟨by omega, ?_⟩⟩) (fun p => ⟨fun _ => ⟨by omega, ?_⟩, fun z => absurd rfl z⟩)
      · rintro _ rfl
        refine ⟨by omega, ?_⟩
        rintro _ rfl
        rw [crossN_t p] at hK
        rw [Int.add_assoc]
        exact hK
      · rintro _ rfl
        refine ⟨by omega, ?_⟩
        rintro _ rfl
        rw [crossN_f p] at hK
        rw [Int.add_assoc]
        exact hK
    unfold jD_pointsOf_L5
    rw [hc.a]
    exact ⟨fun q => by omega, fun q => crosses_ok hc hv hd k0 k1 x0 x1 (fun p => ⟨fun z => by omega, fun _ => second 1 (Or.inr rfl) (crossN_t p)⟩) (fun p => ⟨fun _ => second 0 (Or.inl rfl) (crossN_f p), fun z => absurd rfl z⟩)⟩
end RD

