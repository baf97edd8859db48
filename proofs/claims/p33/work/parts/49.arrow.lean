/-! a new arrow -/
section AC
variable {A A' S : zA} {H : Int → zA} {h fl L B : Int} {T : Int → Int} {M M2 Mm Mx' : zM} {b : Nat}
def hasP (A : zA) (i j : Int) : Prop := ∃ k, 0 ≤ k ∧ k < A 6 0 ∧ A 9 k = i ∧ A 10 k = j
theorem hasArrow_ok (hc : CV A M b) (hv : Val B A) {i j : Int} {Φ : Int → Prop} (ht : hasP A i j → Φ 1) (hf : ¬ hasP A i j → Φ 0) : jC_hasArrow b i j M Φ := by
  have ha := hv.a
  unfold jC_hasArrow
  refine zfor1 (fun x => ∀ k, 0 ≤ k → k < x → ¬ (A 9 k = i ∧ A 10 k = j)) (n := A 6 0) ha.1 (fun k _ _ => by omega) (fun K hI => ?_) (fun K x x0 x1 hI hK => ?_)
  · unfold jC_hasArrow_L2
    rw [hc.a]
    exact ⟨fun _ => hf (fun ⟨k, k0, k1, z⟩ => hI k k0 k1 z), fun q => absurd (Int.le_refl _) q⟩
  · have nx : ¬ (A 9 x = i ∧ A 10 x = j) → (i32 (x + 1) ∧ ∀ v : Int, v = x + 1 → K v) := fun q => ⟨by omega, fun v hv => hv ▸ hK (fun k k0 k1 => if e : k = x then e ▸ q else hI k k0 (by omega))⟩
    unfold jC_hasArrow_L2
    rw [hc.a, hc.from x x0 x1, hc.to x x0 x1]
    exact ⟨fun q => by omega, fun q => ⟨by omega, by omega, fun e => nx (fun z => e z.1), fun e => ⟨by omega, by omega, fun e2 => nx (fun z => e2 z.2), fun e2 => ht ⟨x, x0, x1, e, e2⟩⟩⟩⟩
theorem zor_same {v c : Int} (hv : i32 v) (hc : 0 ≤ c ∧ c < 32) (h : bI v c = true) : zor v (zshl 1 c) = v := by
  unfold zor
  have e : Int32.ofInt v ||| Int32.ofInt (zshl 1 c) = Int32.ofInt v := b_ext (fun i hi => by
    have h1 := bI_1 (k := c) (i := (i : Int)) hc ⟨by omega, by omega⟩
    unfold bI at h1 h
    rw [show ((i : Int).toNat) = i by omega] at h1
    rw [b_or, h1]
    by_cases q : (i : Int) = c
    · rw [show i = c.toNat by omega, h]; rfl
    · rw [decide_eq_false q, Bool.or_false])
  rw [e]
  exact zi_to hv
-- who leads to whom
def clP (A : zA) (P : Int → Prop) : Prop := ∀ k, 0 ≤ k → k < A 6 0 → P (A 9 k) → P (A 10 k)
def reachP (A : zA) (s t : Int) : Prop := ∀ P : Int → Prop, P s → clP A P → P t
theorem reach_s (s : Int) : reachP A s s := fun _ h _ => h
theorem reach_t {s k : Int} (h : reachP A s (A 9 k)) (k0 : 0 ≤ k) (k1 : k < A 6 0) : reachP A s (A 10 k) := fun P hs hc => hc k k0 k1 (h P hs hc)
theorem cntA_le {p q : Int → Bool} {n : Int} (h : ∀ j, 0 ≤ j → j < n → p j = true → q j = true) : cntA p n ≤ cntA q n := by
  have : ∀ m : Nat, (m : Int) ≤ n → cntA p m ≤ cntA q m := by
    intro m
    induction m with
    | zero => intro _; exact Int.le_refl _
    | succ m ih =>
      intro hm
      have := ih (by omega)
      rw [show ((m + 1 : Nat) : Int) = (m : Int) + 1 by omega]
      by_cases hp : p m = true
      · rw [cntA_t (by omega) hp, cntA_t (by omega) (h m (by omega) (by omega) hp)]; omega
      · rw [cntA_f (by omega) hp]
        by_cases hq : q m = true
        · rw [cntA_t (by omega) hq]; omega
        · rw [cntA_f (by omega) hq]; omega
  rcases Int.le_total 0 n with q0 | q0
  · obtain ⟨m, rfl⟩ := Int.eq_ofNat_of_zero_le q0; exact this m (Int.le_refl _)
  · unfold cntA sumI; rw [show n.toNat = 0 by omega]; exact Int.le_refl _
theorem cntA_lt {p q : Int → Bool} {n j : Int} (h : ∀ j, 0 ≤ j → j < n → p j = true → q j = true) (j0 : 0 ≤ j) (j1 : j < n) (hp : ¬ p j = true) (hq : q j = true) : cntA p n < cntA q n := by
  refine sumI_lt (fun i i0 i1 => ?_) ⟨j, j0, j1, ?_⟩
  · by_cases e : p i = true
    · simp only [if_pos e, if_pos (h i i0 i1 e)]; omega
    · simp only [if_neg e]
      by_cases e2 : q i = true
      · simp only [if_pos e2]; omega
      · simp only [if_neg e2]; omega
  · simp only [if_neg hp, if_pos hq]; omega
theorem leadsOn_ok (hc : CV A M b) (hv : Val B A) {s t : Int} (s0 : 0 ≤ s) (s1 : s < A 0 0) (t0 : 0 ≤ t) (t1 : t < A 0 0) {Φ : Int → Prop} (ht : reachP A s t → Φ 1) (hf : ¬ reachP A s t → Φ 0) : jC_leadsOn b s t M Φ := by
  have hn := hv.n
  have ha := hv.a
  unfold jC_leadsOn
  rintro _ rfl
  have fin : ∀ v, (∀ j, 0 ≤ j → j < 32 → bI v j = true → j < A 0 0 ∧ reachP A s j) → bI v s = true → clP A (fun j => 0 ≤ j ∧ j < 32 ∧ bI v j = true) → jC_leadsOn_J79 b s t Φ v M := by
    intro v h1 h2 h3
    unfold jC_leadsOn_J79
    refine ⟨fun q => hf (fun z => ?_), fun q => ?_⟩
    · have := z (fun j => 0 ≤ j ∧ j < 32 ∧ bI v j = true) ⟨s0, by omega, h2⟩ h3
      exact q ((zbit_1 (by omega)).mpr this.2.2)
    · exact ht (h1 t t0 (by omega) ((zbit_1 (by omega)).mp q)).2
  refine zwh_run (fun v => 0 ≤ v.2 ∧ v.2 ≤ A 0 0 ∧ i32 v.1 ∧ (∀ j, 0 ≤ j → j < 32 → bI v.1 j = true → j < A 0 0 ∧ reachP A s j) ∧ bI v.1 s = true ∧ v.2 < cntA (fun j => bI v.1 j) (A 0 0)) (fun v => (A 0 0 - v.2).toNat) ?_ (zshl 1 s, 0) ⟨Int.le_refl 0, hn.1, zi_rng _, fun j j0 j1 hj => ?_, ?_, ?_⟩
  · rintro K ⟨v, x⟩ ⟨x0, x1, h0, h1, h2, h3⟩ hK
    have x0 : 0 ≤ x := x0
    have x1 : x ≤ A 0 0 := x1
    have h0 : i32 v := h0
    have h1 : ∀ j, 0 ≤ j → j < 32 → bI v j = true → j < A 0 0 ∧ reachP A s j := h1
    have h2 : bI v s = true := h2
    have h3 : x < cntA (fun j => bI v j) (A 0 0) := h3
    have cr := cntA_rng (p := fun j => bI v j) hn.1
    show jC_leadsOn_L7 b s t K Φ M v x
    unfold jC_leadsOn_L7
    rw [hc.n]
    refine ⟨fun q => by omega, fun q => ?_⟩
    refine zfor2i (fun a y => i32 a ∧ (∀ j, 0 ≤ j → j < 32 → bI a j = true → j < A 0 0 ∧ reachP A s j) ∧ (∀ j, 0 ≤ j → j < 32 → bI v j = true → bI a j = true) ∧ (a = v → ∀ k, 0 ≤ k → k < y → bI v (A 9 k) = true → bI v (A 10 k) = true) ∧ (¬ a = v → ∃ j, 0 ≤ j ∧ j < A 0 0 ∧ ¬ bI v j = true ∧ bI a j = true)) (n := A 6 0) ha.1 ⟨h0, h1, fun _ _ _ z => z, fun _ k k0 k1 => by omega, fun z => absurd rfl z⟩ (fun K2 a hI => ?_) (fun K2 a y y0 y1 hI hK2 => ?_)
    · obtain ⟨g0, g1, g2, g3, g4⟩ := hI
      show jC_leadsOn_L22 b s t K K2 Φ x v M a (A 6 0)
      unfold jC_leadsOn_L22
      rw [hc.a]
      refine ⟨fun _ => ⟨fun e => ⟨by omega, ?_⟩, fun e => ?_⟩, fun z => absurd (Int.le_refl _) z⟩
      · rintro _ rfl
        obtain ⟨j, j0, j1, j2, j3⟩ := g4 e
        have lt := cntA_lt (p := fun j => bI v j) (q := fun j => bI a j) (n := A 0 0) (fun i i0 i1 hi => g2 i i0 (by omega) hi) j0 j1 j2 j3
        exact hK (a, x + 1) ⟨by show 0 ≤ x + 1; omega, by show x + 1 ≤ A 0 0; omega, g0, g1, g2 s s0 (by omega) h2, by show x + 1 < cntA (fun j => bI a j) (A 0 0); omega⟩ (by show (A 0 0 - (x + 1)).toNat < (A 0 0 - x).toNat; omega)
      · subst e
        refine fin a g1 h2 (fun k k0 k1 hk => ?_)
        have tk := hv.to k k0 k1
        exact ⟨tk.1, by omega, g3 rfl k k0 k1 hk.2.2⟩
    · obtain ⟨g0, g1, g2, g3, g4⟩ := hI
      have fk := hv.from y y0 y1
      have tk := hv.to y y0 y1
      show jC_leadsOn_L22 b s t K K2 Φ x v M a y
      unfold jC_leadsOn_L22
      rw [hc.a, hc.from y y0 y1, hc.to y y0 y1]
      refine ⟨fun z => by omega, fun _ => ⟨by omega, by omega, fun e => ⟨by omega, ?_⟩, fun e => ⟨by omega, by omega, ?_⟩⟩⟩
      · rintro _ rfl
        refine hK2 a ⟨g0, g1, g2, fun ea k k0 k1 hk => ?_, g4⟩
        by_cases e2 : k = y
        · subst e2; rw [← ea] at hk; exact absurd ((zbit_1 (by omega)).mpr hk) e
        · exact g3 ea k k0 (by omega) hk
      · rintro _ rfl
        refine ⟨by omega, ?_⟩
        rintro _ rfl
        have hb := (zbit_1 (x := a) (k := A 9 y) (by omega)).mp e
        have rch := reach_t (g1 _ fk.1 (by omega) hb).2 y0 y1
        refine hK2 _ ⟨zi_rng _, fun j j0 j1 hj => ?_, fun j j0 j1 hj => ?_, fun ea k k0 k1 hk => ?_, fun ea => ?_⟩
        · rw [bI_or, Bool.or_eq_true, bI_1 (by omega) ⟨j0, j1⟩, decide_eq_true_iff] at hj
          rcases hj with z | z
          · exact g1 j j0 j1 z
          · subst z; exact ⟨tk.2, rch⟩
        · rw [bI_or, Bool.or_eq_true]; exact Or.inl (g2 j j0 j1 hj)
        · have hy : bI v (A 10 y) = true := by rw [← ea, bI_or, Bool.or_eq_true, bI_1 (by omega) (by omega), decide_eq_true_iff]; exact Or.inr rfl
          by_cases e2 : k = y
          · subst e2; exact hy
          · have ea2 : a = v := by
              by_cases e3 : a = v
              · exact e3
              · obtain ⟨j, j0, j1, j2, j3⟩ := g4 e3
                have : bI v j = true := by rw [← ea, bI_or, Bool.or_eq_true]; exact Or.inl j3
                exact absurd this j2
            exact g3 ea2 k k0 (by omega) hk
        · by_cases e3 : a = v
          · by_cases e4 : bI v (A 10 y) = true
            · exact absurd (by
                rw [e3]
                exact zor_same h0 (by omega) e4) ea
            · exact ⟨_, tk.1, tk.2, e4, by rw [bI_or, Bool.or_eq_true, bI_1 (by omega) (by omega), decide_eq_true_iff]; exact Or.inr rfl⟩
          · obtain ⟨j, j0, j1, j2, j3⟩ := g4 e3
            exact ⟨j, j0, j1, j2, by rw [bI_or, Bool.or_eq_true]; exact Or.inl j3⟩
  · have hj : bI (zshl 1 s) j = true := hj
    rw [bI_1 (by omega) ⟨j0, j1⟩, decide_eq_true_iff] at hj
    subst hj
    exact ⟨s1, reach_s _⟩
  · show bI (zshl 1 s) s = true
    rw [bI_1 (by omega) (by omega), decide_eq_true_iff]
  · show 0 < cntA (fun j => bI (zshl 1 s) j) (A 0 0)
    have := cntA_lt (p := fun _ => false) (q := fun j => bI (zshl 1 s) j) (n := A 0 0) (fun _ _ _ z => by cases z) s0 s1 (by decide) (by show bI (zshl 1 s) s = true; rw [bI_1 (by omega) (by omega), decide_eq_true_iff])
    have := cntA_rng (p := fun _ => false) hn.1
    omega
end AC

