/-! a new arrow -/
section AC
variable {A A' S : zA} {H : Int → zA} {h fl L B : Int} {T : Int → Int} {M M2 Mm Mx' : zM} {b : Nat}
def hasP (A : zA) (i j : Int) : Prop := ∃ k, 0 ≤ k ∧ k < A 6 0 ∧ A 9 k = i ∧ A 10 k = j
theorem hasArrow_ok (hc : CV A M b) (hv : Val B A) {i j : Int} {Φ : Int → Prop} (ht : hasP A i j → Φ 1) (hf : ¬ hasP A i j → Φ 0) : jC_hasArrow b i j M Φ := by
  have ha := hv.a
  unfold jC_hasArrow
  refine zfor1 (fun x => ∀ k, 0 ≤ k → k < x → ¬ (A 9 k = i ∧ A 10 k = j)) (n := A 6 0) ha.1 (fun k _ _ => by omega) (fun K hI => ?_) (fun K x x0 x1 hI hK => ?_)
  · unfold jC_hasArrow_L2
    rw [hc.a]
    exact ⟨fun _ => hf (fun ⟨k, k0, k1, z⟩ => hI k k0 k1 z), fun q => absurd (Int.le_refl _) q⟩
  · have nx : ¬ (A 9 x = i ∧ A 10 x = j) → (i32 (x + 1) ∧ ∀ v : Int, v = x + 1 → K v) := fun q => ⟨by omega, fun v hv => hv ▸ hK (fun k k0 k1 => if e : k = x then e ▸ q else hI k k0 (by omega))⟩
    unfold jC_hasArrow_L2
    rw [hc.a, hc.from x x0 x1, hc.to x x0 x1]
    exact ⟨fun q => by omega, fun q => ⟨by omega, by omega, fun e => nx (fun z => e z.1), fun e => ⟨by omega, by omega, fun e2 => nx (fun z => e2 z.2), fun e2 => ht ⟨x, x0, x1, e, e2⟩⟩⟩⟩
theorem hasArrowM_ok (hr : RV A (M 1)) (hv : Val B A) {i j : Int} {Φ : Int → Prop} (ht : hasP A i j → Φ 1) (hf : ¬ hasP A i j → Φ 0) : jM_hasArrow i j M Φ := by
  have ha := hv.a
  unfold jM_hasArrow
  refine zfor1 (fun x => ∀ k, 0 ≤ k → k < x → ¬ (A 9 k = i ∧ A 10 k = j)) (n := A 6 0) ha.1 (fun k _ _ => by omega) (fun K hI => ?_) (fun K x x0 x1 hI hK => ?_)
  · unfold jM_hasArrow_L2
    rw [hr.a]
    exact ⟨fun _ => hf (fun ⟨k, k0, k1, z⟩ => hI k k0 k1 z), fun q => absurd (Int.le_refl _) q⟩
  · have nx : ¬ (A 9 x = i ∧ A 10 x = j) → (i32 (x + 1) ∧ ∀ v : Int, v = x + 1 → K v) := fun q => ⟨by omega, fun v hv => hv ▸ hK (fun k k0 k1 => if e : k = x then e ▸ q else hI k k0 (by omega))⟩
    unfold jM_hasArrow_L2
    rw [hr.a]
    exact ⟨fun q => by omega, fun q => from_ok hr hv x0 x1 ⟨fun e => nx (fun z => e z.1), fun e => to_ok hr hv x0 x1 ⟨fun e2 => nx (fun z => e2 z.2), fun e2 => ht ⟨x, x0, x1, e, e2⟩⟩⟩⟩
theorem zor_same {v c : Int} (hv : i32 v) (hc : 0 ≤ c ∧ c < 32) (h : bI v c = true) : zor v (zshl 1 c) = v := by
  unfold zor
  have e : Int32.ofInt v ||| Int32.ofInt (zshl 1 c) = Int32.ofInt v := b_ext (fun i hi => by
    have h1 := bI_1 (k := c) (i := (i : Int)) hc ⟨by omega, by omega⟩
    unfold bI at h1 h
    rw [show ((i : Int).toNat) = i by omega] at h1
    rw [b_or, h1]
    by_cases q : (i : Int) = c
    · rw [show i = c.toNat by omega, h]; rfl
    · rw [decide_eq_false q, Bool.or_false])
  rw [e]
  exact zi_to hv
-- who leads to whom
def clP (A : zA) (P : Int → Prop) : Prop := ∀ k, 0 ≤ k → k < A 6 0 → P (A 9 k) → P (A 10 k)
def reachP (A : zA) (s t : Int) : Prop := ∀ P : Int → Prop, P s → clP A P → P t
theorem reach_s (s : Int) : reachP A s s := fun _ h _ => h
theorem reach_t {s k : Int} (h : reachP A s (A 9 k)) (k0 : 0 ≤ k) (k1 : k < A 6 0) : reachP A s (A 10 k) := fun P hs hc => hc k k0 k1 (h P hs hc)
theorem cntA_le {p q : Int → Bool} {n : Int} (h : ∀ j, 0 ≤ j → j < n → p j = true → q j = true) : cntA p n ≤ cntA q n := by
  have : ∀ m : Nat, (m : Int) ≤ n → cntA p m ≤ cntA q m := by
    intro m
    induction m with
    | zero => intro _; exact Int.le_refl _
    | succ m ih =>
      intro hm
      have := ih (by omega)
      rw [show ((m + 1 : Nat) : Int) = (m : Int) + 1 by omega]
      by_cases hp : p m = true
      · rw [cntA_t (by omega) hp, cntA_t (by omega) (h m (by omega) (by omega) hp)]; omega
      · rw [cntA_f (by omega) hp]
        by_cases hq : q m = true
        · rw [cntA_t (by omega) hq]; omega
        · rw [cntA_f (by omega) hq]; omega
  rcases Int.le_total 0 n with q0 | q0
  · obtain ⟨m, rfl⟩ := Int.eq_ofNat_of_zero_le q0; exact this m (Int.le_refl _)
  · unfold cntA sumI; rw [show n.toNat = 0 by omega]; exact Int.le_refl _
theorem cntA_lt {p q : Int → Bool} {n j : Int} (h : ∀ j, 0 ≤ j → j < n → p j = true → q j = true) (j0 : 0 ≤ j) (j1 : j < n) (hp : ¬ p j = true) (hq : q j = true) : cntA p n < cntA q n := by
  refine sumI_lt (fun i i0 i1 => ?_) ⟨j, j0, j1, ?_⟩
  · by_cases e : p i = true
    · simp only [if_pos e, if_pos (h i i0 i1 e)]; omega
    · simp only [if_neg e]
      by_cases e2 : q i = true
      · simp only [if_pos e2]; omega
      · simp only [if_neg e2]; omega
  · simp only [if_neg hp, if_pos hq]; omega
theorem leadsOn_ok (hc : CV A M b) (hv : Val B A) {s t : Int} (s0 : 0 ≤ s) (s1 : s < A 0 0) (t0 : 0 ≤ t) (t1 : t < A 0 0) {Φ : Int → Prop} (ht : reachP A s t → Φ 1) (hf : ¬ reachP A s t → Φ 0) : jC_leadsOn b s t M Φ := by
  have hn := hv.n
  have ha := hv.a
  unfold jC_leadsOn
  rintro _ rfl
  have fin : ∀ v, (∀ j, 0 ≤ j → j < 32 → bI v j = true → j < A 0 0 ∧ reachP A s j) → bI v s = true → clP A (fun j => 0 ≤ j ∧ j < 32 ∧ bI v j = true) → jC_leadsOn_J79 b s t Φ v M := by
    intro v h1 h2 h3
    unfold jC_leadsOn_J79
    refine ⟨fun q => hf (fun z => ?_), fun q => ?_⟩
    · have := z (fun j => 0 ≤ j ∧ j < 32 ∧ bI v j = true) ⟨s0, by omega, h2⟩ h3
      exact q ((zbit_1 (by omega)).mpr this.2.2)
    · exact ht (h1 t t0 (by omega) ((zbit_1 (by omega)).mp q)).2
  refine zwh_run (fun v => 0 ≤ v.2 ∧ v.2 ≤ A 0 0 ∧ i32 v.1 ∧ (∀ j, 0 ≤ j → j < 32 → bI v.1 j = true → j < A 0 0 ∧ reachP A s j) ∧ bI v.1 s = true ∧ v.2 < cntA (fun j => bI v.1 j) (A 0 0)) (fun v => (A 0 0 - v.2).toNat) ?_ (zshl 1 s, 0) ⟨Int.le_refl 0, hn.1, zi_rng _, fun j j0 j1 hj => ?_, ?_, ?_⟩
  · rintro K ⟨v, x⟩ ⟨x0, x1, h0, h1, h2, h3⟩ hK
    have x0 : 0 ≤ x := x0
    have x1 : x ≤ A 0 0 := x1
    have h0 : i32 v := h0
    have h1 : ∀ j, 0 ≤ j → j < 32 → bI v j = true → j < A 0 0 ∧ reachP A s j := h1
    have h2 : bI v s = true := h2
    have h3 : x < cntA (fun j => bI v j) (A 0 0) := h3
    have cr := cntA_rng (p := fun j => bI v j) hn.1
    show jC_leadsOn_L7 b s t K Φ M v x
    unfold jC_leadsOn_L7
    rw [hc.n]
    refine ⟨fun q => by omega, fun q => ?_⟩
    refine zfor2i (fun a y => i32 a ∧ (∀ j, 0 ≤ j → j < 32 → bI a j = true → j < A 0 0 ∧ reachP A s j) ∧ (∀ j, 0 ≤ j → j < 32 → bI v j = true → bI a j = true) ∧ (a = v → ∀ k, 0 ≤ k → k < y → bI v (A 9 k) = true → bI v (A 10 k) = true) ∧ (¬ a = v → ∃ j, 0 ≤ j ∧ j < A 0 0 ∧ ¬ bI v j = true ∧ bI a j = true)) (n := A 6 0) ha.1 ⟨h0, h1, fun _ _ _ z => z, fun _ k k0 k1 => by omega, fun z => absurd rfl z⟩ (fun K2 a hI => ?_) (fun K2 a y y0 y1 hI hK2 => ?_)
    · obtain ⟨g0, g1, g2, g3, g4⟩ := hI
      show jC_leadsOn_L22 b s t K K2 Φ x v M a (A 6 0)
      unfold jC_leadsOn_L22
      rw [hc.a]
      refine ⟨fun _ => ⟨fun e => ⟨by omega, ?_⟩, fun e => ?_⟩, fun z => absurd (Int.le_refl _) z⟩
      · rintro _ rfl
        obtain ⟨j, j0, j1, j2, j3⟩ := g4 e
        have lt := cntA_lt (p := fun j => bI v j) (q := fun j => bI a j) (n := A 0 0) (fun i i0 i1 hi => g2 i i0 (by omega) hi) j0 j1 j2 j3
        exact hK (a, x + 1) ⟨by show 0 ≤ x + 1; omega, by show x + 1 ≤ A 0 0; omega, g0, g1, g2 s s0 (by omega) h2, by show x + 1 < cntA (fun j => bI a j) (A 0 0); omega⟩ (by show (A 0 0 - (x + 1)).toNat < (A 0 0 - x).toNat; omega)
      · subst e
        refine fin a g1 h2 (fun k k0 k1 hk => ?_)
        have tk := hv.to k k0 k1
        exact ⟨tk.1, by omega, g3 rfl k k0 k1 hk.2.2⟩
    · obtain ⟨g0, g1, g2, g3, g4⟩ := hI
      have fk := hv.from y y0 y1
      have tk := hv.to y y0 y1
      show jC_leadsOn_L22 b s t K K2 Φ x v M a y
      unfold jC_leadsOn_L22
      rw [hc.a, hc.from y y0 y1, hc.to y y0 y1]
      refine ⟨fun z => by omega, fun _ => ⟨by omega, by omega, fun e => ⟨by omega, ?_⟩, fun e => ⟨by omega, by omega, ?_⟩⟩⟩
      · rintro _ rfl
        refine hK2 a ⟨g0, g1, g2, fun ea k k0 k1 hk => ?_, g4⟩
        by_cases e2 : k = y
        · subst e2; rw [← ea] at hk; exact absurd ((zbit_1 (by omega)).mpr hk) e
        · exact g3 ea k k0 (by omega) hk
      · rintro _ rfl
        refine ⟨by omega, ?_⟩
        rintro _ rfl
        have hb := (zbit_1 (x := a) (k := A 9 y) (by omega)).mp e
        have rch := reach_t (g1 _ fk.1 (by omega) hb).2 y0 y1
        refine hK2 _ ⟨zi_rng _, fun j j0 j1 hj => ?_, fun j j0 j1 hj => ?_, fun ea k k0 k1 hk => ?_, fun ea => ?_⟩
        · rw [bI_or, Bool.or_eq_true, bI_1 (by omega) ⟨j0, j1⟩, decide_eq_true_iff] at hj
          rcases hj with z | z
          · exact g1 j j0 j1 z
          · subst z; exact ⟨tk.2, rch⟩
        · rw [bI_or, Bool.or_eq_true]; exact Or.inl (g2 j j0 j1 hj)
        · have hy : bI v (A 10 y) = true := by rw [← ea, bI_or, Bool.or_eq_true, bI_1 (by omega) (by omega), decide_eq_true_iff]; exact Or.inr rfl
          by_cases e2 : k = y
          · subst e2; exact hy
          · have ea2 : a = v := by
              by_cases e3 : a = v
              · exact e3
              · obtain ⟨j, j0, j1, j2, j3⟩ := g4 e3
                have : bI v j = true := by rw [← ea, bI_or, Bool.or_eq_true]; exact Or.inl j3
                exact absurd this j2
            exact g3 ea2 k k0 (by omega) hk
        · by_cases e3 : a = v
          · by_cases e4 : bI v (A 10 y) = true
            · exact absurd (by
                rw [e3]
                exact zor_same h0 (by omega) e4) ea
            · exact ⟨_, tk.1, tk.2, e4, by rw [bI_or, Bool.or_eq_true, bI_1 (by omega) (by omega), decide_eq_true_iff]; exact Or.inr rfl⟩
          · obtain ⟨j, j0, j1, j2, j3⟩ := g4 e3
            exact ⟨j, j0, j1, j2, by rw [bI_or, Bool.or_eq_true]; exact Or.inl j3⟩
  · have hj : bI (zshl 1 s) j = true := hj
    rw [bI_1 (by omega) ⟨j0, j1⟩, decide_eq_true_iff] at hj
    subst hj
    exact ⟨s1, reach_s _⟩
  · show bI (zshl 1 s) s = true
    rw [bI_1 (by omega) (by omega), decide_eq_true_iff]
  · show 0 < cntA (fun j => bI (zshl 1 s) j) (A 0 0)
    have := cntA_lt (p := fun _ => false) (q := fun j => bI (zshl 1 s) j) (n := A 0 0) (fun _ _ _ z => by cases z) s0 s1 (by decide) (by show bI (zshl 1 s) s = true; rw [bI_1 (by omega) (by omega), decide_eq_true_iff])
    have := cntA_rng (p := fun _ => false) hn.1
    omega
theorem leads_ok (hr : RV A (M 1)) (hv : Val B A) {s t : Int} (s0 : 0 ≤ s) (s1 : s < A 0 0) (t0 : 0 ≤ t) (t1 : t < A 0 0) {Φ : Int → zM → Prop} (ht : reachP A s t → ∀ M', (∀ q, q ≠ 9 → M' q = M q) → Φ 1 M') (hf : ¬ reachP A s t → ∀ M', (∀ q, q ≠ 9 → M' q = M q) → Φ 0 M') : jM_leads s t M Φ := by
  have hn := hv.n
  have ha := hv.a
  unfold jM_leads
  refine zwh_run (fun v => 0 ≤ v.1 ∧ v.1 ≤ A 0 0 ∧ (∀ q, q ≠ 9 → v.2 q = M q) ∧ ∀ j, 0 ≤ j → j < v.1 → v.2 9 j = if j = s then 1 else 0) (fun v => (A 0 0 - v.1).toNat) ?_ (0, M) ⟨Int.le_refl 0, hn.1, fun _ _ => rfl, fun j j0 j1 => by have j1 : j < 0 := j1; omega⟩
  rintro K ⟨x, M1⟩ ⟨x0, x1, hs, h9⟩ hK
  have x0 : 0 ≤ x := x0
  have x1 : x ≤ A 0 0 := x1
  have hs : ∀ q, q ≠ 9 → M1 q = M q := hs
  have h9 : ∀ j, 0 ≤ j → j < x → M1 9 j = if j = s then 1 else 0 := h9
  show jM_leads_L2 s t K Φ x M1
  unfold jM_leads_L2
  rw [hs 1 (by omega), hr.n]
  refine ⟨fun q => ?_, fun q => ?_⟩
  · have ex : x = A 0 0 := by omega
    subst ex
    clear hK
    refine zwh_run (fun v => 0 ≤ v.1 ∧ v.1 ≤ A 0 0 ∧ (∀ q, q ≠ 9 → v.2 q = M q) ∧ (∀ j, 0 ≤ j → j < A 0 0 → v.2 9 j = 0 ∨ v.2 9 j = 1) ∧ v.2 9 s = 1 ∧ (∀ j, 0 ≤ j → j < A 0 0 → v.2 9 j = 1 → reachP A s j) ∧ (v.1 < cntA (fun j => decide (v.2 9 j = 1)) (A 0 0) ∨ clP A (fun j => v.2 9 j = 1))) (fun v => (A 0 0 - v.1).toNat) ?_ (0, M1) ⟨Int.le_refl 0, hn.1, hs, fun j j0 j1 => ?_, ?_, fun j j0 j1 hj => ?_, Or.inl ?_⟩
    · rintro K ⟨y, M2⟩ ⟨y0, y1, hs2, hb, hsS, hre, hcl⟩ hK
      have y0 : 0 ≤ y := y0
      have y1 : y ≤ A 0 0 := y1
      have hs2 : ∀ q, q ≠ 9 → M2 q = M q := hs2
      have hb : ∀ j, 0 ≤ j → j < A 0 0 → M2 9 j = 0 ∨ M2 9 j = 1 := hb
      have hsS : M2 9 s = 1 := hsS
      have hre : ∀ j, 0 ≤ j → j < A 0 0 → M2 9 j = 1 → reachP A s j := hre
      have hcl : y < cntA (fun j => decide (M2 9 j = 1)) (A 0 0) ∨ clP A (fun j => M2 9 j = 1) := hcl
      have cr := cntA_rng (p := fun j => decide (M2 9 j = 1)) hn.1
      show jM_leads_L36 s t K Φ y M2
      unfold jM_leads_L36
      rw [hs2 1 (by omega), hr.n]
      refine ⟨fun q => ⟨t0, by omega, hb t t0 t1, ?_⟩, fun q => ?_⟩
      · have cl : clP A (fun j => M2 9 j = 1) := by
          rcases hcl with z | z
          · omega
          · exact z
        rcases hb t t0 t1 with z | z
        · rw [z]
          refine hf (fun w => ?_) M2 hs2
          have := w (fun j => M2 9 j = 1) hsS cl
          omega
        · rw [z]; exact ht (hre t t0 t1 z) M2 hs2
      · refine zwh_run (fun v => 0 ≤ v.1 ∧ v.1 ≤ A 6 0 ∧ (∀ q, q ≠ 9 → v.2 q = M q) ∧ (∀ j, 0 ≤ j → j < A 0 0 → v.2 9 j = 0 ∨ v.2 9 j = 1) ∧ v.2 9 s = 1 ∧ (∀ j, 0 ≤ j → j < A 0 0 → v.2 9 j = 1 → reachP A s j) ∧ (∀ j, 0 ≤ j → j < A 0 0 → M2 9 j = 1 → v.2 9 j = 1) ∧ ((∃ j, 0 ≤ j ∧ j < A 0 0 ∧ ¬ M2 9 j = 1 ∧ v.2 9 j = 1) ∨ ((∀ j, 0 ≤ j → j < A 0 0 → v.2 9 j = M2 9 j) ∧ ∀ k, 0 ≤ k → k < v.1 → M2 9 (A 9 k) = 1 → M2 9 (A 10 k) = 1))) (fun v => (A 6 0 - v.1).toNat) ?_ (0, M2) ⟨Int.le_refl 0, ha.1, hs2, hb, hsS, hre, fun _ _ _ z => z, Or.inr ⟨fun _ _ _ => rfl, fun k k0 k1 => by have k1 : k < 0 := k1; omega⟩⟩
        rintro K2 ⟨z, M3⟩ ⟨z0, z1, hs3, hb3, hsS3, hre3, hsub, hch⟩ hK2
        have z0 : 0 ≤ z := z0
        have z1 : z ≤ A 6 0 := z1
        have hs3 : ∀ q, q ≠ 9 → M3 q = M q := hs3
        have hb3 : ∀ j, 0 ≤ j → j < A 0 0 → M3 9 j = 0 ∨ M3 9 j = 1 := hb3
        have hsS3 : M3 9 s = 1 := hsS3
        have hre3 : ∀ j, 0 ≤ j → j < A 0 0 → M3 9 j = 1 → reachP A s j := hre3
        have hsub : ∀ j, 0 ≤ j → j < A 0 0 → M2 9 j = 1 → M3 9 j = 1 := hsub
        have hch : (∃ j, 0 ≤ j ∧ j < A 0 0 ∧ ¬ M2 9 j = 1 ∧ M3 9 j = 1) ∨ ((∀ j, 0 ≤ j → j < A 0 0 → M3 9 j = M2 9 j) ∧ ∀ k, 0 ≤ k → k < z → M2 9 (A 9 k) = 1 → M2 9 (A 10 k) = 1) := hch
        have hr3 : RV A (M3 1) := by rw [hs3 1 (by omega)]; exact hr
        show jM_leads_L49 s t K K2 Φ y z M3
        unfold jM_leads_L49
        rw [hr3.a]
        refine ⟨fun q2 => ⟨by omega, ?_⟩, fun q2 => ?_⟩
        · rintro _ rfl
          refine hK (y + 1, M3) ⟨by show 0 ≤ y + 1; omega, by show y + 1 ≤ A 0 0; omega, hs3, hb3, hsS3, hre3, ?_⟩ (by show (A 0 0 - (y + 1)).toNat < (A 0 0 - y).toNat; omega)
          show y + 1 < cntA (fun j => decide (M3 9 j = 1)) (A 0 0) ∨ clP A (fun j => M3 9 j = 1)
          rcases hch with ⟨j, j0, j1, j2, j3⟩ | ⟨w1, w2⟩
          · rcases hcl with c | c
            · have := cntA_lt (p := fun j => decide (M2 9 j = 1)) (q := fun j => decide (M3 9 j = 1)) (n := A 0 0) (fun i i0 i1 hi => by rw [decide_eq_true_iff] at hi ⊢; exact hsub i i0 i1 hi) j0 j1 (by rw [decide_eq_true_iff]; exact j2) (by rw [decide_eq_true_iff]; exact j3)
              exact Or.inl (by omega)
            · have := hre3 j j0 j1 j3 (fun j => M2 9 j = 1) hsS c
              exact absurd this j2
          · refine Or.inr (fun k k0 k1 hk => ?_)
            have fk := hv.from k k0 k1
            have tk := hv.to k k0 k1
            have hk : M3 9 (A 9 k) = 1 := hk
            show M3 9 (A 10 k) = 1
            rw [w1 _ fk.1 fk.2] at hk
            rw [w1 _ tk.1 tk.2]
            exact w2 k k0 (by omega) hk
        · have fk := hv.from z z0 (by omega)
          have tk := hv.to z z0 (by omega)
          have fin : ∀ s2, (s2 = 0 ∨ s2 = 1) → (s2 = 1 ↔ (M3 9 (A 10 z) = 1 ∨ M3 9 (A 9 z) = 1)) → jM_leads_J104 s t K K2 Φ y z (A 10 z) s2 M3 := by
            intro s2 h01 hiff
            unfold jM_leads_J104
            refine ⟨tk.1, by omega, h01, ?_⟩
            rintro _ rfl
            refine ⟨by omega, ?_⟩
            rintro _ rfl
            have g : ∀ j, zup M3 9 (A 10 z) s2 9 j = if j = A 10 z then s2 else M3 9 j := fun j => by
              by_cases e : j = A 10 z
              · rw [if_pos e, e, zup_at]
              · rw [if_neg e, zup_ne e]
            have go : ∀ q, q ≠ 9 → zup M3 9 (A 10 z) s2 q = M q := fun q hq => (zup_other hq).trans (hs3 q hq)
            generalize hM4 : zup M3 9 (A 10 z) s2 = M4 at g go ⊢
            have up : ∀ j, 0 ≤ j → j < A 0 0 → M3 9 j = 1 → M4 9 j = 1 := fun j j0 j1 hj => by
              rw [g j]
              by_cases e : j = A 10 z
              · rw [if_pos e]; exact hiff.mpr (Or.inl (by rw [← e]; exact hj))
              · rw [if_neg e]; exact hj
            refine hK2 (z + 1, M4) ⟨by show 0 ≤ z + 1; omega, by show z + 1 ≤ A 6 0; omega, go, fun j j0 j1 => ?_, up s s0 s1 hsS3, fun j j0 j1 hj => ?_, fun j j0 j1 hj => up j j0 j1 (hsub j j0 j1 hj), ?_⟩ (by show (A 6 0 - (z + 1)).toNat < (A 6 0 - z).toNat; omega)
            · show M4 9 j = 0 ∨ M4 9 j = 1
              rw [g j]
              by_cases e : j = A 10 z
              · rw [if_pos e]; exact h01
              · rw [if_neg e]; exact hb3 j j0 j1
            · have hj : M4 9 j = 1 := hj
              rw [g j] at hj
              by_cases e : j = A 10 z
              · rw [if_pos e] at hj
                rw [e]
                rcases hiff.mp hj with w | w
                · exact hre3 _ tk.1 tk.2 w
                · exact reach_t (hre3 _ fk.1 fk.2 w) z0 (by omega)
              · rw [if_neg e] at hj; exact hre3 j j0 j1 hj
            · show (∃ j, 0 ≤ j ∧ j < A 0 0 ∧ ¬ M2 9 j = 1 ∧ M4 9 j = 1) ∨ ((∀ j, 0 ≤ j → j < A 0 0 → M4 9 j = M2 9 j) ∧ ∀ k, 0 ≤ k → k < z + 1 → M2 9 (A 9 k) = 1 → M2 9 (A 10 k) = 1)
              rcases hch with ⟨j, j0, j1, j2, j3⟩ | ⟨w1, w2⟩
              · exact Or.inl ⟨j, j0, j1, j2, up j j0 j1 j3⟩
              · rw [w1 _ tk.1 tk.2, w1 _ fk.1 fk.2] at hiff
                by_cases e1 : M2 9 (A 10 z) = 1
                · refine Or.inr ⟨fun j j0 j1 => ?_, fun k k0 k1 hk => ?_⟩
                  · rw [g j]
                    by_cases e : j = A 10 z
                    · rw [if_pos e, e, e1]; exact hiff.mpr (Or.inl e1)
                    · rw [if_neg e]; exact w1 j j0 j1
                  · by_cases e2 : k = z
                    · rw [e2]; exact e1
                    · exact w2 k k0 (by omega) hk
                · by_cases e2 : M2 9 (A 9 z) = 1
                  · exact Or.inl ⟨A 10 z, tk.1, tk.2, e1, by rw [g, if_pos rfl]; exact hiff.mpr (Or.inr e2)⟩
                  · refine Or.inr ⟨fun j j0 j1 => ?_, fun k k0 k1 hk => ?_⟩
                    · rw [g j]
                      by_cases e : j = A 10 z
                      · rw [if_pos e, e]
                        have n1 : ¬ s2 = 1 := fun w => by rcases hiff.mp w with w | w; exact e1 w; exact e2 w
                        have := hb _ tk.1 tk.2
                        omega
                      · rw [if_neg e]; exact w1 j j0 j1
                    · by_cases e3 : k = z
                      · rw [e3] at hk; exact absurd hk e2
                      · exact w2 k k0 (by omega) hk
          have b10 := hb3 _ tk.1 tk.2
          have b9 := hb3 _ fk.1 fk.2
          refine to_ok hr3 hv z0 (by omega) (to_ok hr3 hv z0 (by omega) ⟨tk.1, by omega, fun w => ?_, fun w => from_ok hr3 hv z0 (by omega) ⟨fk.1, by omega, fun w2 => ?_, fun w2 => ?_⟩⟩)
          · exact fin 1 (Or.inr rfl) ⟨fun _ => Or.inl (by omega), fun _ => rfl⟩
          · exact fin 0 (Or.inl rfl) ⟨fun w => by omega, fun w => by omega⟩
          · exact fin 1 (Or.inr rfl) ⟨fun _ => Or.inr (by omega), fun _ => rfl⟩
    · show M1 9 j = 0 ∨ M1 9 j = 1
      rw [h9 j j0 j1]
      by_cases e : j = s
      · rw [if_pos e]; exact Or.inr rfl
      · rw [if_neg e]; exact Or.inl rfl
    · show M1 9 s = 1
      rw [h9 s s0 s1, if_pos rfl]
    · have hj : M1 9 j = 1 := hj
      rw [h9 j j0 j1] at hj
      by_cases e : j = s
      · rw [e]; exact reach_s s
      · rw [if_neg e] at hj; omega
    · show 0 < cntA (fun j => decide (M1 9 j = 1)) (A 0 0)
      have := cntA_lt (p := fun _ => false) (q := fun j => decide (M1 9 j = 1)) (n := A 0 0) (fun _ _ _ z => by cases z) s0 s1 (by decide) (by show decide (M1 9 s = 1) = true; rw [decide_eq_true_iff, h9 s s0 s1, if_pos rfl])
      have := cntA_rng (p := fun _ => false) hn.1
      omega
  · have fin : ∀ s2, s2 = (if x = s then 1 else 0) → jM_leads_J27 s t K Φ x x s2 M1 := by
      intro s2 hs2
      unfold jM_leads_J27
      refine ⟨x0, by omega, by by_cases e : x = s; rw [if_pos e] at hs2; exact Or.inr hs2; rw [if_neg e] at hs2; exact Or.inl hs2, ?_⟩
      rintro _ rfl
      refine ⟨by omega, ?_⟩
      rintro _ rfl
      refine hK (x + 1, zup M1 9 x s2) ⟨by show 0 ≤ x + 1; omega, by show x + 1 ≤ A 0 0; omega, fun q hq => (zup_other hq).trans (hs q hq), fun j j0 j1 => ?_⟩ (by show (A 0 0 - (x + 1)).toNat < (A 0 0 - x).toNat; omega)
      have j1 : j < x + 1 := j1
      show zup M1 9 x s2 9 j = if j = s then 1 else 0
      by_cases e : j = x
      · rw [e, zup_at]; exact hs2
      · rw [zup_ne e]; exact h9 j j0 (by omega)
    exact ⟨fun e => fin 0 (by rw [if_neg e]), fun e => fin 1 (by rw [if_pos e])⟩
end AC
