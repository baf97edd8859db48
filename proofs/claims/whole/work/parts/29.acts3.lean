/-! the acts: widths, a new bar -/
section AC
variable {A A' S : zA} {H : Int → zA} {h fl L B : Int} {T : Int → Int} {M M2 Mm Mx' : zM} {b : Nat}
def widA (A : zA) (s e w : Int) : zA := fun k j => match k with | 11 => if s ≤ j ∧ j < e then w else A 11 j | k => A k j
theorem widA_val (hv : Val B A) {s e w : Int} (w0 : 1 ≤ w) (w1 : w ≤ 9) : Val B (widA A s e w) := by
  refine ⟨hv.1, hv.2.1, hv.2.2.1, hv.2.2.2.1, hv.2.2.2.2.1, hv.num, hv.numlt, hv.lane, hv.day, hv.apart, hv.anum, hv.anumlt, hv.from, hv.to, fun j j0 j1 => ?_, hv.set0, hv.set1⟩
  show 1 ≤ (if s ≤ j ∧ j < e then w else A 11 j) ∧ (if s ≤ j ∧ j < e then w else A 11 j) ≤ 9
  have := hv.wid j j0 j1
  by_cases q : s ≤ j ∧ j < e
  · simp only [if_pos q]; omega
  · simp only [if_neg q]; omega
theorem widA_CV (hc : CV A M b) {s e w : Int} (hs : ∀ a, a ≠ b + 8 → M2 a = M a) (h8 : ∀ j, 0 ≤ j → j < 200 → M2 (b + 8) j = if s ≤ j ∧ j < e then w else A 11 j) : CV (widA A s e w) M2 b := by
  refine ⟨?_, ?_, ?_, ?_, ?_, fun j j0 j1 => ?_, fun j j0 j1 => ?_, fun j j0 j1 => ?_, fun j j0 j1 => ?_, fun j j0 j1 => ?_, fun j j0 j1 => ?_, fun j j0 j1 => ?_, h8, fun j j0 j1 => ?_⟩
  · rw [hs _ (by omega)]; exact hc.n
  · rw [hs _ (by omega)]; exact hc.ever
  · rw [hs _ (by omega)]; exact hc.a
  · rw [hs _ (by omega)]; exact hc.aever
  · rw [hs _ (by omega)]; exact hc.slip
  · rw [hs _ (by omega)]; exact hc.num j j0 j1
  · rw [hs _ (by omega)]; exact hc.lane j j0 j1
  · rw [hs _ (by omega)]; exact hc.first j j0 j1
  · rw [hs _ (by omega)]; exact hc.days j j0 j1
  · rw [hs _ (by omega)]; exact hc.anum j j0 j1
  · rw [hs _ (by omega)]; exact hc.from j j0 j1
  · rw [hs _ (by omega)]; exact hc.to j j0 j1
  · rw [hs _ (by omega)]; exact hc.set j j0 j1
theorem widA_RV {σ σ' : Int → Int} (hr : RV A σ) {s e w : Int} (hn : A 0 0 ≤ 30) (ha : A 6 0 ≤ 40) (h1 : ∀ k, (k < 242 ∨ 442 ≤ k) → σ' k = σ k) (h2 : ∀ j, 0 ≤ j → j < 200 → σ' (242 + j) = if s ≤ j ∧ j < e then w else A 11 j) : RV (widA A s e w) σ' := by
  refine ⟨(h1 _ (by omega)).trans hr.n, (h1 _ (by omega)).trans hr.ever, (h1 _ (by omega)).trans hr.a, (h1 _ (by omega)).trans hr.aever, (h1 _ (by omega)).trans hr.slip, fun j j0 j1 => ?_, fun j j0 j1 => ?_, fun j j0 j1 => ?_, fun j j0 j1 => ?_, fun j j0 j1 => ?_, fun j j0 j1 => ?_, fun j j0 j1 => ?_, h2, fun j j0 j1 => (h1 _ (by omega)).trans (hr.set j j0 j1)⟩
  · have j1 : j < A 0 0 := j1
    exact (h1 _ (by omega)).trans (hr.num j j0 j1)
  · have j1 : j < A 0 0 := j1
    exact (h1 _ (by omega)).trans (hr.lane j j0 j1)
  · have j1 : j < A 0 0 := j1
    exact (h1 _ (by omega)).trans (hr.first j j0 j1)
  · have j1 : j < A 0 0 := j1
    exact (h1 _ (by omega)).trans (hr.days j j0 j1)
  · have j1 : j < A 6 0 := j1
    exact (h1 _ (by omega)).trans (hr.anum j j0 j1)
  · have j1 : j < A 6 0 := j1
    exact (h1 _ (by omega)).trans (hr.from j j0 j1)
  · have j1 : j < A 6 0 := j1
    exact (h1 _ (by omega)).trans (hr.to j j0 j1)
def widN (A : zA) (s e w : Int) : Int := cntA (fun j => decide (s ≤ j ∧ A 11 j ≠ w)) e
theorem widN_0 {s w : Int} (s0 : 0 ≤ s) : widN A s s w = 0 := by
  have : ∀ m : Nat, (m : Int) ≤ s → cntA (fun j => decide (s ≤ j ∧ A 11 j ≠ w)) m = 0 := by
    intro m
    induction m with
    | zero => intro _; rfl
    | succ m ih =>
      intro hm
      rw [show ((m + 1 : Nat) : Int) = (m : Int) + 1 by omega, cntA_f (by omega) (by rw [decide_eq_true_iff]; omega), ih (by omega)]
      rfl
  obtain ⟨m, rfl⟩ := Int.eq_ofNat_of_zero_le s0
  exact this m (Int.le_refl _)
theorem setWidths_ok (hc : CV A M b) (hv : Val B A) {s e w : Int} (s0 : 0 ≤ s) (se : s ≤ e) (e1 : e < 200) {Φ : Int → zM → Prop} (k : ∀ M', (∀ a, a ≠ b + 8 → M' a = M a) → CV (widA A s (e + 1) w) M' b → Φ (widN A s (e + 1) w) M') : jC_setWidths b s e w M Φ := by
  unfold jC_setWidths
  refine zwh_run (fun v => s ≤ v.2.1 ∧ v.2.1 ≤ e + 1 ∧ (∀ a, a ≠ b + 8 → v.2.2 a = M a) ∧ v.1 = widN A s v.2.1 w ∧ ∀ j, 0 ≤ j → j < 200 → v.2.2 (b + 8) j = if s ≤ j ∧ j < v.2.1 then w else A 11 j) (fun v => (e + 1 - v.2.1).toNat) ?_ (0, s, M) ⟨Int.le_refl s, (show s ≤ e + 1 by omega), fun _ _ => rfl, (widN_0 s0).symm, fun j j0 j1 => by rw [if_neg (by show ¬ (s ≤ j ∧ j < s); omega)]; exact hc.wid j j0 j1⟩
  rintro K ⟨c, x, M1⟩ ⟨x0, x1, hs, hcnt, h8⟩ hK
  have x0 : s ≤ x := x0
  have x1 : x ≤ e + 1 := x1
  have hs : ∀ a, a ≠ b + 8 → M1 a = M a := hs
  have hcnt : c = widN A s x w := hcnt
  have h8 : ∀ j, 0 ≤ j → j < 200 → M1 (b + 8) j = if s ≤ j ∧ j < x then w else A 11 j := h8
  have cr : 0 ≤ widN A s x w ∧ widN A s x w ≤ x := cntA_rng (by omega)
  show jC_setWidths_L6 b s e w K Φ c x M1
  unfold jC_setWidths_L6
  refine ⟨fun q => ?_, fun q => ⟨by omega, by omega, ?_⟩⟩
  · have ex : x = e + 1 := by omega
    subst ex
    rw [hcnt]
    exact k M1 hs (widA_CV hc hs h8)
  · rw [h8 x (by omega) (by omega), if_neg (by omega)]
    refine ⟨fun q2 => ⟨by omega, ?_⟩, fun q2 => ⟨by omega, by omega, ?_⟩⟩
    · rintro _ rfl
      refine hK (c, x + 1, M1) ⟨by show s ≤ x + 1; omega, by show x + 1 ≤ e + 1; omega, hs, ?_, fun j j0 j1 => ?_⟩ (by show (e + 1 - (x + 1)).toNat < (e + 1 - x).toNat; omega)
      · show c = widN A s (x + 1) w
        unfold widN
        rw [cntA_f (by omega) (by rw [decide_eq_true_iff]; omega), hcnt]; unfold widN; omega
      · show M1 (b + 8) j = if s ≤ j ∧ j < x + 1 then w else A 11 j
        rw [h8 j j0 j1]
        by_cases e2 : j = x
        · subst e2; rw [if_neg (by omega), if_pos (by omega)]; exact q2
        · by_cases e3 : s ≤ j ∧ j < x
          · rw [if_pos e3, if_pos (by omega)]
          · rw [if_neg e3, if_neg (by omega)]
    · rintro _ rfl
      refine ⟨by omega, ?_⟩
      rintro _ rfl
      refine ⟨by omega, ?_⟩
      rintro _ rfl
      refine hK (c + 1, x + 1, zup M1 (b + 8) x w) ⟨by show s ≤ x + 1; omega, by show x + 1 ≤ e + 1; omega, fun a ha => (zup_other ha).trans (hs a ha), ?_, fun j j0 j1 => ?_⟩ (by show (e + 1 - (x + 1)).toNat < (e + 1 - x).toNat; omega)
      · show c + 1 = widN A s (x + 1) w
        unfold widN
        rw [cntA_t (by omega) (by rw [decide_eq_true_iff]; omega), hcnt]; unfold widN; omega
      · show zup M1 (b + 8) x w (b + 8) j = if s ≤ j ∧ j < x + 1 then w else A 11 j
        by_cases e2 : j = x
        · subst e2; rw [zup_at, if_pos (by omega)]
        · rw [zup_ne e2, h8 j j0 j1]
          by_cases e3 : s ≤ j ∧ j < x
          · rw [if_pos e3, if_pos (by omega)]
          · rw [if_neg e3, if_neg (by omega)]
def okWid (s e w : Int) : Prop := 0 ≤ s ∧ s ≤ e ∧ e < 200 ∧ 1 ≤ w ∧ w ≤ 9
theorem widens_ok (hr : RV A (M 1)) (hv : Val B A) {s e w : Int} {Φ : Int → zM → Prop} (hbad : ¬ okWid s e w → Φ (-2) M) (k : okWid s e w → ∀ M', (∀ a, a ≠ 1 → M' a = M a) → RV (widA A s (e + 1) w) (M' 1) → Φ (if widN A s (e + 1) w = 0 then -5 else widN A s (e + 1) w) M') : jM_widens s e w M Φ := by
  unfold jM_widens
  refine in_ok (fun l0 l1 => ⟨fun z => absurd z (by decide), fun _ => in_ok (fun l2 l3 => ⟨fun z => absurd z (by decide), fun _ => in_ok (fun l4 l5 => ⟨fun _ => ?_, fun z => absurd z (by decide)⟩) (fun z => ⟨fun y => absurd rfl y, fun _ => hbad (by unfold okWid; omega)⟩)⟩) (fun z => ⟨fun _ => hbad (by unfold okWid; omega), fun y => absurd rfl y⟩)⟩) (fun z => ⟨fun _ => hbad (by unfold okWid; omega), fun y => absurd rfl y⟩)
  have K0 := k (by unfold okWid; omega)
  refine zwh_run (fun v => s ≤ v.2.1 ∧ v.2.1 ≤ e + 1 ∧ (∀ a, a ≠ 1 → v.2.2 a = M a) ∧ v.1 = widN A s v.2.1 w ∧ (∀ j, (j < 242 ∨ 442 ≤ j) → v.2.2 1 j = M 1 j) ∧ ∀ j, 0 ≤ j → j < 200 → v.2.2 1 (242 + j) = if s ≤ j ∧ j < v.2.1 then w else A 11 j) (fun v => (e + 1 - v.2.1).toNat) ?_ (0, s, M) ⟨Int.le_refl s, (show s ≤ e + 1 by omega), fun _ _ => rfl, (widN_0 l0).symm, fun _ _ => rfl, fun j j0 j1 => by rw [if_neg (by show ¬ (s ≤ j ∧ j < s); omega)]; exact hr.wid j j0 j1⟩
  rintro K ⟨c, x, M1⟩ ⟨x0, x1, hs, hcnt, ho, h8⟩ hK
  have x0 : s ≤ x := x0
  have x1 : x ≤ e + 1 := x1
  have hs : ∀ a, a ≠ 1 → M1 a = M a := hs
  have hcnt : c = widN A s x w := hcnt
  have ho : ∀ j, (j < 242 ∨ 442 ≤ j) → M1 1 j = M 1 j := ho
  have h8 : ∀ j, 0 ≤ j → j < 200 → M1 1 (242 + j) = if s ≤ j ∧ j < x then w else A 11 j := h8
  have cr : 0 ≤ widN A s x w ∧ widN A s x w ≤ x := cntA_rng (by omega)
  show jM_widens_L41 s e w K Φ c x M1
  unfold jM_widens_L41
  refine ⟨fun q => ?_, fun q => ⟨by omega, by omega, by omega, ?_⟩⟩
  · have ex : x = e + 1 := by omega
    subst ex
    have Kf := K0 M1 hs (widA_RV hr hv.n.2 hv.a.2 ho h8)
    rw [← hcnt] at Kf
    exact ⟨fun z => by rw [if_neg z] at Kf; exact Kf, fun z => by rw [if_pos z] at Kf; exact Kf⟩
  · rw [h8 x (by omega) (by omega), if_neg (by omega)]
    have fin : ∀ s1, 0 ≤ s1 → s1 ≤ 1 → widN A s (x + 1) w = c + s1 → jM_widens_J69 s e w K Φ x c s1 M1 := by
      intro s1 t0 t1 hs1
      unfold jM_widens_J69
      refine ⟨by omega, ?_⟩
      rintro _ rfl
      refine ⟨by omega, by omega, by omega, ?_⟩
      rintro _ rfl
      refine ⟨by omega, ?_⟩
      rintro _ rfl
      refine hK (c + s1, x + 1, zup M1 1 (242 + x) w) ⟨by show s ≤ x + 1; omega, by show x + 1 ≤ e + 1; omega, fun a ha => (zup_other ha).trans (hs a ha), hs1.symm, fun j hj => (zup_ne (by omega)).trans (ho j hj), fun j j0 j1 => ?_⟩ (by show (e + 1 - (x + 1)).toNat < (e + 1 - x).toNat; omega)
      show zup M1 1 (242 + x) w 1 (242 + j) = if s ≤ j ∧ j < x + 1 then w else A 11 j
      by_cases e2 : j = x
      · subst e2; rw [zup_at, if_pos (by omega)]
      · rw [zup_ne (by omega), h8 j j0 j1]
        by_cases e3 : s ≤ j ∧ j < x
        · rw [if_pos e3, if_pos (by omega)]
        · rw [if_neg e3, if_neg (by omega)]
    refine ⟨fun q2 => fin 1 (by omega) (by omega) ?_, fun q2 => fin 0 (by omega) (by omega) ?_⟩
    · unfold widN
      rw [cntA_t (by omega) (by rw [decide_eq_true_iff]; omega), hcnt]; unfold widN; omega
    · unfold widN
      rw [cntA_f (by omega) (by rw [decide_eq_true_iff]; omega), hcnt]; unfold widN; omega
theorem width_pair {Mx : zM} (hp : PI B Mx Mm) (s e w : Int) : jB_width s e w Mx (fun r Mx' => jM_width s e w Mm (fun r' Mm' => r' = r ∧ PI B Mx' Mm')) := by
  obtain ⟨A, H, h, fl, S, L, T, hV, hX, hM⟩ := hp
  have hv := hV.1
  have back : ¬ okWid s e w → jM_width s e w Mm (fun r' Mm' => r' = -2 ∧ PI B Mx Mm') := by
    intro hn
    unfold jM_width
    exact putAside_ok (fun M1 hs1 ha1 => widens_ok (by rw [hs1 1 (by omega)]; exact hM.1) hv (fun _ => bad_ok hV hM (fun q q1 q2 _ => hs1 q q2) ha1 (by omega) hX) (fun z => absurd z hn))
  unfold jB_width
  refine isDay_ok (fun s0 s1 => ⟨fun z => absurd z (by decide), fun _ => isDay_ok (fun e0 e1 => ⟨fun z => absurd z (by decide), fun _ => ⟨fun q => back (by unfold okWid; omega), fun q => ⟨fun q2 => back (by unfold okWid; omega), fun q2 => ⟨fun q3 => ?_, fun q3 => back (by unfold okWid; omega)⟩⟩⟩⟩) (fun z => ⟨fun _ => back (by unfold okWid; omega), fun y => absurd rfl y⟩)⟩) (fun z => ⟨fun _ => back (by unfold okWid; omega), fun y => absurd rfl y⟩)
  have ho : okWid s e w := by unfold okWid; omega
  refine copyFrom_ok hv (Or.inr (by omega)) hX.1 (fun M1 hs hc => setWidths_ok hc hv s0 (by omega) e1 (fun M2 hs2 hc2 => ?_))
  have hs' : ∀ q, (q < 10 ∨ 20 ≤ q) → M2 q = Mx q := fun q hq => (hs2 q (by omega)).trans (hs q (by omega))
  have hX2 := hX.same (fun q hq => hs' q (by omega)) (by rw [hs' 73 (by omega)]) (hs' 74 (by omega))
  have cr : 0 ≤ widN A s (e + 1) w ∧ widN A s (e + 1) w ≤ e + 1 := cntA_rng (by omega)
  refine ⟨fun q4 => ?_, fun q4 => ?_⟩
  · refine settle_ok hV hX2 (widA_val hv (by omega) q3) hc2 cr.1 (fun Mx' hX' => ?_)
    unfold jM_width
    refine putAside_ok (fun M3 hs1 ha1 => widens_ok (by rw [hs1 1 (by omega)]; exact hM.1) hv (fun z => absurd ho z) (fun _ M4 hs4 hr4 => ?_))
    rw [if_neg q4]
    exact fin_ok hV hM (fun q q1 q2 _ => (hs4 q q1).trans (hs1 q q2)) (fun x x0 x1 => by rw [hs4 2 (by omega)]; exact ha1 x x0 x1) hr4 (widA_val hv (by omega) q3) cr.1 hX'
  · refine settleBad (by omega) ?_
    unfold jM_width
    refine putAside_ok (fun M3 hs1 ha1 => widens_ok (by rw [hs1 1 (by omega)]; exact hM.1) hv (fun z => absurd ho z) (fun _ M4 hs4 hr4 => ?_))
    rw [if_pos q4]
    exact bad_ok hV hM (fun q q1 q2 _ => (hs4 q q1).trans (hs1 q q2)) (fun x x0 x1 => by rw [hs4 2 (by omega)]; exact ha1 x x0 x1) (by omega) hX2
end AC
