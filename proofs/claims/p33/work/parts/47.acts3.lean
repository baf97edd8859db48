/-! the acts: widths, a new bar -/
section AC
variable {A A' S : zA} {H : Int → zA} {h fl L B : Int} {T : Int → Int} {M M2 Mm Mx' : zM} {b : Nat}
def widA (A : zA) (s e w : Int) : zA := fun k j => match k with | 11 => if s ≤ j ∧ j < e then w else A 11 j | k => A k j
theorem widA_val (hv : Val B A) {s e w : Int} (w0 : 1 ≤ w) (w1 : w ≤ 9) : Val B (widA A s e w) := by
  refine ⟨hv.1, hv.2.1, hv.2.2.1, hv.2.2.2.1, hv.2.2.2.2.1, hv.num, hv.numlt, hv.lane, hv.day, hv.apart, hv.anum, hv.anumlt, hv.from, hv.to, fun j j0 j1 => ?_, hv.set0, hv.set1⟩
  show 1 ≤ (if s ≤ j ∧ j < e then w else A 11 j) ∧ (if s ≤ j ∧ j < e then w else A 11 j) ≤ 9
  have := hv.wid j j0 j1
  by_cases q : s ≤ j ∧ j < e
  · simp only [if_pos q]; omega
  · simp only [if_neg q]; omega
theorem widA_CV (hc : CV A M b) {s e w : Int} (hs : ∀ a, a ≠ b + 8 → M2 a = M a) (h8 : ∀ j, 0 ≤ j → j < 200 → M2 (b + 8) j = if s ≤ j ∧ j < e then w else A 11 j) : CV (widA A s e w) M2 b := by
  refine ⟨?_, ?_, ?_, ?_, ?_, fun j j0 j1 => ?_, fun j j0 j1 => ?_, fun j j0 j1 => ?_, fun j j0 j1 => ?_, fun j j0 j1 => ?_, fun j j0 j1 => ?_, fun j j0 j1 => ?_, h8, fun j j0 j1 => ?_⟩
  · rw [hs _ (by omega)]; exact hc.n
  · rw [hs _ (by omega)]; exact hc.ever
  · rw [hs _ (by omega)]; exact hc.a
  · rw [hs _ (by omega)]; exact hc.aever
  · rw [hs _ (by omega)]; exact hc.slip
  · rw [hs _ (by omega)]; exact hc.num j j0 j1
  · rw [hs _ (by omega)]; exact hc.lane j j0 j1
  · rw [hs _ (by omega)]; exact hc.first j j0 j1
  · rw [hs _ (by omega)]; exact hc.days j j0 j1
  · rw [hs _ (by omega)]; exact hc.anum j j0 j1
  · rw [hs _ (by omega)]; exact hc.from j j0 j1
  · rw [hs _ (by omega)]; exact hc.to j j0 j1
  · rw [hs _ (by omega)]; exact hc.set j j0 j1
def widN (A : zA) (s e w : Int) : Int := cntA (fun j => decide (s ≤ j ∧ A 11 j ≠ w)) e
theorem widN_0 {s w : Int} (s0 : 0 ≤ s) : widN A s s w = 0 := by
  have : ∀ m : Nat, (m : Int) ≤ s → cntA (fun j => decide (s ≤ j ∧ A 11 j ≠ w)) m = 0 := by
    intro m
    induction m with
    | zero => intro _; rfl
    | succ m ih =>
      intro hm
      rw [show ((m + 1 : Nat) : Int) = (m : Int) + 1 by omega, cntA_f (by omega) (by rw [decide_eq_true_iff]; omega), ih (by omega)]
      rfl
  obtain ⟨m, rfl⟩ := Int.eq_ofNat_of_zero_le s0
  exact this m (Int.le_refl _)
theorem setWidths_ok (hc : CV A M b) (hv : Val B A) {s e w : Int} (s0 : 0 ≤ s) (se : s ≤ e) (e1 : e < 200) {Φ : Int → zM → Prop} (k : ∀ M', (∀ a, a ≠ b + 8 → M' a = M a) → CV (widA A s (e + 1) w) M' b → Φ (widN A s (e + 1) w) M') : jC_setWidths b s e w M Φ := by
  unfold jC_setWidths
  refine zwh_run (fun v => s ≤ v.2.1 ∧ v.2.1 ≤ e + 1 ∧ (∀ a, a ≠ b + 8 → v.2.2 a = M a) ∧ v.1 = widN A s v.2.1 w ∧ ∀ j, 0 ≤ j → j < 200 → v.2.2 (b + 8) j = if s ≤ j ∧ j < v.2.1 then w else A 11 j) (fun v => (e + 1 - v.2.1).toNat) ?_ (0, s, M) ⟨Int.le_refl s, (show s ≤ e + 1 by omega), fun _ _ => rfl, (widN_0 s0).symm, fun j j0 j1 => by rw [if_neg (by show ¬ (s ≤ j ∧ j < s); omega)]; exact hc.wid j j0 j1⟩
  rintro K ⟨c, x, M1⟩ ⟨x0, x1, hs, hcnt, h8⟩ hK
  have x0 : s ≤ x := x0
  have x1 : x ≤ e + 1 := x1
  have hs : ∀ a, a ≠ b + 8 → M1 a = M a := hs
  have hcnt : c = widN A s x w := hcnt
  have h8 : ∀ j, 0 ≤ j → j < 200 → M1 (b + 8) j = if s ≤ j ∧ j < x then w else A 11 j := h8
  have cr : 0 ≤ widN A s x w ∧ widN A s x w ≤ x := cntA_rng (by omega)
  show jC_setWidths_L6 b s e w K Φ c x M1
  unfold jC_setWidths_L6
  refine ⟨fun q => ?_, fun q => ⟨by omega, by omega, ?_⟩⟩
  · have ex : x = e + 1 := by omega
    subst ex
    rw [hcnt]
    exact k M1 hs (widA_CV hc hs h8)
  · rw [h8 x (by omega) (by omega), if_neg (by omega)]
    refine ⟨fun q2 => ⟨by omega, ?_⟩, fun q2 => ⟨by omega, by omega, ?_⟩⟩
    · rintro _ rfl
      refine hK (c, x + 1, M1) ⟨by show s ≤ x + 1; omega, by show x + 1 ≤ e + 1; omega, hs, ?_, fun j j0 j1 => ?_⟩ (by show (e + 1 - (x + 1)).toNat < (e + 1 - x).toNat; omega)
      · show c = widN A s (x + 1) w
        unfold widN
        rw [cntA_f (by omega) (by rw [decide_eq_true_iff]; omega), hcnt]; unfold widN; omega
      · show M1 (b + 8) j = if s ≤ j ∧ j < x + 1 then w else A 11 j
        rw [h8 j j0 j1]
        by_cases e2 : j = x
        · subst e2; rw [if_neg (by omega), if_pos (by omega)]; exact q2
        · by_cases e3 : s ≤ j ∧ j < x
          · rw [if_pos e3, if_pos (by omega)]
          · rw [if_neg e3, if_neg (by omega)]
    · rintro _ rfl
      refine ⟨by omega, ?_⟩
      rintro _ rfl
      refine ⟨by omega, ?_⟩
      rintro _ rfl
      refine hK (c + 1, x + 1, zup M1 (b + 8) x w) ⟨by show s ≤ x + 1; omega, by show x + 1 ≤ e + 1; omega, fun a ha => (zup_other ha).trans (hs a ha), ?_, fun j j0 j1 => ?_⟩ (by show (e + 1 - (x + 1)).toNat < (e + 1 - x).toNat; omega)
      · show c + 1 = widN A s (x + 1) w
        unfold widN
        rw [cntA_t (by omega) (by rw [decide_eq_true_iff]; omega), hcnt]; unfold widN; omega
      · show zup M1 (b + 8) x w (b + 8) j = if s ≤ j ∧ j < x + 1 then w else A 11 j
        by_cases e2 : j = x
        · subst e2; rw [zup_at, if_pos (by omega)]
        · rw [zup_ne e2, h8 j j0 j1]
          by_cases e3 : s ≤ j ∧ j < x
          · rw [if_pos e3, if_pos (by omega)]
          · rw [if_neg e3, if_neg (by omega)]
def okWid (s e w : Int) : Prop := 0 ≤ s ∧ s ≤ e ∧ e < 200 ∧ 1 ≤ w ∧ w ≤ 9
end AC

