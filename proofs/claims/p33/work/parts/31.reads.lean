/-! loops that count up -/
theorem zfor1 {body : (Int → Prop) → Int → Prop} (I : Int → Prop) {lo n : Int} (hlo : lo ≤ n) (h0 : I lo) (hend : ∀ K, I n → body K n) (hstep : ∀ K x, lo ≤ x → x < n → I x → (I (x + 1) → K (x + 1)) → body K x) : zwh body lo := by
  refine zwh_run (fun x => lo ≤ x ∧ x ≤ n ∧ I x) (fun x => (n - x).toNat) ?_ lo ⟨Int.le_refl _, hlo, h0⟩
  rintro K x ⟨h1, h2, h3⟩ hK
  by_cases e : x = n
  · subst e; exact hend K h3
  · exact hstep K x h1 (by omega) h3 (fun q => hK _ ⟨by omega, by omega, q⟩ (by omega))
theorem zfor2 {body : (Int × Int → Prop) → Int × Int → Prop} (g : Int → Int) {acc lo n : Int} (hlo : lo ≤ n) (h0 : acc = g lo) (hend : ∀ K, body K (g n, n)) (hstep : ∀ K x, lo ≤ x → x < n → K (g (x + 1), x + 1) → body K (g x, x)) : zwh body (acc, lo) := by
  subst h0
  refine zwh_run (fun s => lo ≤ s.2 ∧ s.2 ≤ n ∧ s.1 = g s.2) (fun s => (n - s.2).toNat) ?_ (g lo, lo) ⟨Int.le_refl _, hlo, rfl⟩
  rintro K ⟨a, x⟩ ⟨h1, h2, h3⟩ hK
  have h3 : a = g x := h3
  have h1 : lo ≤ x := h1
  have h2 : x ≤ n := h2
  subst h3
  by_cases e : x = n
  · subst e; exact hend K
  · exact hstep K x h1 (by omega) (hK _ ⟨by show lo ≤ x + 1; omega, by show x + 1 ≤ n; omega, rfl⟩ (by show (n - (x + 1)).toNat < (n - x).toNat; omega))
section RC
variable {A : zA} {M : zM} {b : Nat} {B : Int} {Φ : Int → Prop}
theorem endOf_ok (hc : CV A M b) (hv : Val B A) {i : Int} (h0 : 0 ≤ i) (h1 : i < A 0 0) (h : Φ (A 4 i + A 5 i)) : jC_endOf b i M Φ := by
  have hn := hv.n
  have c1_i := hc.num i (by omega) (by omega)
  have c2_i := hc.lane i (by omega) (by omega)
  have c3_i := hc.first i (by omega) (by omega)
  have c4_i := hc.days i (by omega) (by omega)
  have v1_i := hv.num i (by omega) (by omega)
  have v2_i := hv.lane i (by omega) (by omega)
  have v3_i := hv.day i (by omega) (by omega)
  unfold jC_endOf
  rw [c3_i, c4_i]
  exact ⟨by omega, by omega, by omega, by omega, by omega, h⟩
theorem shares_ok (hc : CV A M b) (hv : Val B A) {i s e : Int} (h0 : 0 ≤ i) (h1 : i < A 0 0) (ht : A 4 i < e → s < A 4 i + A 5 i → Φ 1) (hf : ¬ (A 4 i < e ∧ s < A 4 i + A 5 i) → Φ 0) : jC_sharesDays b i s e M Φ := by
  have hn := hv.n
  have c1_i := hc.num i (by omega) (by omega)
  have c2_i := hc.lane i (by omega) (by omega)
  have c3_i := hc.first i (by omega) (by omega)
  have c4_i := hc.days i (by omega) (by omega)
  have v1_i := hv.num i (by omega) (by omega)
  have v2_i := hv.lane i (by omega) (by omega)
  have v3_i := hv.day i (by omega) (by omega)
  unfold jC_sharesDays
  rw [c3_i]
  exact ⟨by omega, by omega, fun q => hf (by omega), fun q => endOf_ok hc hv h0 h1 ⟨fun q2 => hf (by omega), fun q2 => ht (by omega) (by omega)⟩⟩
def noBar (A : zA) (wanted s e self : Int) : Prop := ∀ j, 0 ≤ j → j < A 0 0 → j ≠ self → A 3 j = wanted → ¬ (A 4 j < e ∧ s < A 4 j + A 5 j)
theorem room_ok (hc : CV A M b) (hv : Val B A) {wanted day len self : Int} (hi : i32 (day + len)) (ht : noBar A wanted day (day + len) self → Φ 1) (hf : ¬ noBar A wanted day (day + len) self → Φ 0) : jC_hasRoom b wanted day len self M Φ := by
  have hn := hv.n
  unfold jC_hasRoom
  refine zfor1 (fun x => ∀ j, 0 ≤ j → j < x → j ≠ self → A 3 j = wanted → ¬ (A 4 j < day + len ∧ day < A 4 j + A 5 j)) (n := A 0 0) hn.1 (fun j _ _ => by omega) (fun K hI => ?_) (fun K x x0 x1 hI hK => ?_)
  · unfold jC_hasRoom_L3
    rw [hc.n]
    exact ⟨fun _ => ht hI, fun q => absurd (Int.le_refl _) q⟩
  · have next : (x ≠ self → A 3 x = wanted → ¬ (A 4 x < day + len ∧ day < A 4 x + A 5 x)) → K (x + 1) := fun q => hK (fun j j0 j1 => if e : j = x then e ▸ q else hI j j0 (by omega))
    have c1_x := hc.num x (by omega) (by omega)
    have c2_x := hc.lane x (by omega) (by omega)
    have c3_x := hc.first x (by omega) (by omega)
    have c4_x := hc.days x (by omega) (by omega)
    have v1_x := hv.num x (by omega) (by omega)
    have v2_x := hv.lane x (by omega) (by omega)
    have v3_x := hv.day x (by omega) (by omega)
    unfold jC_hasRoom_L3
    rw [hc.n, c2_x]
    refine ⟨fun q => by omega, fun q => ⟨fun e => ⟨by omega, fun v hv => hv ▸ next (fun z => absurd e z)⟩, fun e => ⟨by omega, by omega, fun e2 => ⟨by omega, fun v hv => hv ▸ next (fun _ z => absurd z e2)⟩, fun e2 => ⟨hi, ?_⟩⟩⟩⟩
    refine shares_ok hc hv (by omega) (by omega) (fun s1 s2 => ⟨fun z => by omega, fun _ => hf (fun z => z x x0 x1 e e2 ⟨s1, s2⟩)⟩) (fun s1 => ⟨fun _ => ⟨by omega, fun v hv => hv ▸ next (fun _ _ => s1)⟩, fun z => absurd rfl z⟩)
theorem slotOf_ok (hc : CV A M b) (hv : Val B A) {bar : Int} (ht : ∀ i, 0 ≤ i → i < A 0 0 → A 2 i = bar → Φ i) (hf : (∀ i, 0 ≤ i → i < A 0 0 → A 2 i ≠ bar) → Φ (-1)) : jC_slotOf b bar M Φ := by
  have hn := hv.n
  unfold jC_slotOf
  refine zfor1 (fun x => ∀ i, 0 ≤ i → i < x → A 2 i ≠ bar) (n := A 0 0) hn.1 (fun j _ _ => by omega) (fun K hI => ?_) (fun K x x0 x1 hI hK => ?_)
  · unfold jC_slotOf_L2
    rw [hc.n]
    exact ⟨fun _ => hf hI, fun q => absurd (Int.le_refl _) q⟩
  · have c1_x := hc.num x (by omega) (by omega)
    have c2_x := hc.lane x (by omega) (by omega)
    have c3_x := hc.first x (by omega) (by omega)
    have c4_x := hc.days x (by omega) (by omega)
    have v1_x := hv.num x (by omega) (by omega)
    have v2_x := hv.lane x (by omega) (by omega)
    have v3_x := hv.day x (by omega) (by omega)
    unfold jC_slotOf_L2
    rw [hc.n, c1_x]
    exact ⟨fun q => by omega, fun q => ⟨by omega, by omega, fun e => ⟨by omega, fun v hv => hv ▸ hK (fun j j0 j1 => if e2 : j = x then e2 ▸ e else hI j j0 (by omega))⟩, fun e => ht x x0 x1 e⟩⟩
theorem arrowSlotOf_ok (hc : CV A M b) (hv : Val B A) {bar : Int} (ht : ∀ i, 0 ≤ i → i < A 6 0 → A 8 i = bar → Φ i) (hf : (∀ i, 0 ≤ i → i < A 6 0 → A 8 i ≠ bar) → Φ (-1)) : jC_arrowSlotOf b bar M Φ := by
  have hn := hv.a
  unfold jC_arrowSlotOf
  refine zfor1 (fun x => ∀ i, 0 ≤ i → i < x → A 8 i ≠ bar) (n := A 6 0) hn.1 (fun j _ _ => by omega) (fun K hI => ?_) (fun K x x0 x1 hI hK => ?_)
  · unfold jC_arrowSlotOf_L2
    rw [hc.a]
    exact ⟨fun _ => hf hI, fun q => absurd (Int.le_refl _) q⟩
  · have c5_x := hc.anum x (by omega) (by omega)
    have c6_x := hc.from x (by omega) (by omega)
    have c7_x := hc.to x (by omega) (by omega)
    have v5_x := hv.anum x (by omega) (by omega)
    have v6_x := hv.from x (by omega) (by omega)
    have v7_x := hv.to x (by omega) (by omega)
    unfold jC_arrowSlotOf_L2
    rw [hc.a, c5_x]
    exact ⟨fun q => by omega, fun q => ⟨by omega, by omega, fun e => ⟨by omega, fun v hv => hv ▸ hK (fun j j0 j1 => if e2 : j = x then e2 ▸ e else hI j j0 (by omega))⟩, fun e => ht x x0 x1 e⟩⟩
def endA (A : zA) (j : Int) : Int := A 4 j + A 5 j
def gEnd (A : zA) : Int := mxI (endA A) (A 0 0)
theorem gEnd_rng (hv : Val B A) : 0 ≤ gEnd A ∧ gEnd A ≤ 200 := ⟨mxI_nn _ _, mxI_le (by omega) (fun j h0 h1 => by have := hv.day j h0 h1; unfold endA; omega)⟩
theorem gEnd_part (hv : Val B A) {x : Int} (h0 : 0 ≤ x) (h1 : x ≤ A 0 0) : 0 ≤ mxI (endA A) x ∧ mxI (endA A) x ≤ 200 := ⟨mxI_nn _ _, mxI_le (by omega) (fun j h0 h1 => by have := hv.day j h0 (by omega); unfold endA; omega)⟩
theorem greatestEnd_ok (hc : CV A M b) (hv : Val B A) (h : Φ (gEnd A)) : jC_greatestEnd b M Φ := by
  have hn := hv.n
  unfold jC_greatestEnd
  refine zfor2 (fun x => mxI (endA A) x) (n := A 0 0) hn.1 rfl (fun K => ?_) (fun K x x0 x1 hK => ?_)
  · show jC_greatestEnd_L4 b K Φ M (mxI (endA A) (A 0 0)) (A 0 0)
    unfold jC_greatestEnd_L4
    rw [hc.n]
    exact ⟨fun _ => h, fun q => absurd (Int.le_refl _) q⟩
  · show jC_greatestEnd_L4 b K Φ M (mxI (endA A) x) x
    unfold jC_greatestEnd_L4
    rw [hc.n]
    refine ⟨fun q => by omega, fun q => endOf_ok hc hv x0 x1 ?_⟩
    rintro _ rfl
    refine ⟨by omega, ?_⟩
    rintro _ rfl
    rw [mxI_s _ x0] at hK
    exact hK
def lanedBy (A : zA) (w : Int) : Prop := ∃ j, 0 ≤ j ∧ j < A 0 0 ∧ A 3 j = w
theorem hasBars_ok (hc : CV A M b) (hv : Val B A) {w : Int} (ht : lanedBy A w → Φ 1) (hf : ¬ lanedBy A w → Φ 0) : jC_hasBars b w M Φ := by
  have hn := hv.n
  unfold jC_hasBars
  refine zfor1 (fun x => ∀ i, 0 ≤ i → i < x → A 3 i ≠ w) (n := A 0 0) hn.1 (fun j _ _ => by omega) (fun K hI => ?_) (fun K x x0 x1 hI hK => ?_)
  · unfold jC_hasBars_L2
    rw [hc.n]
    exact ⟨fun _ => hf (fun ⟨j, j0, j1, e⟩ => hI j j0 j1 e), fun q => absurd (Int.le_refl _) q⟩
  · have c1_x := hc.num x (by omega) (by omega)
    have c2_x := hc.lane x (by omega) (by omega)
    have c3_x := hc.first x (by omega) (by omega)
    have c4_x := hc.days x (by omega) (by omega)
    have v1_x := hv.num x (by omega) (by omega)
    have v2_x := hv.lane x (by omega) (by omega)
    have v3_x := hv.day x (by omega) (by omega)
    unfold jC_hasBars_L2
    rw [hc.n, c2_x]
    exact ⟨fun q => by omega, fun q => ⟨by omega, by omega, fun e => ⟨by omega, fun v hv => hv ▸ hK (fun j j0 j1 => if e2 : j = x then e2 ▸ e else hI j j0 (by omega))⟩, fun e => ht ⟨x, x0, x1, e⟩⟩⟩
noncomputable def laneC (A : zA) (w : Int) : Int := by classical exact if lanedBy A w then 1 else 0
theorem laneC_t {w : Int} (h : lanedBy A w) : laneC A w = 1 := by unfold laneC; rw [if_pos h]
theorem laneC_f {w : Int} (h : ¬ lanedBy A w) : laneC A w = 0 := by unfold laneC; rw [if_neg h]
theorem laneC_rng (w : Int) : 0 ≤ laneC A w ∧ laneC A w ≤ 1 := by
  by_cases h : lanedBy A w
  · rw [laneC_t h]; omega
  · rw [laneC_f h]; omega
noncomputable def lanesA (A : zA) : Int := sumI (laneC A) 12
theorem lanesA_rng : 0 ≤ lanesA A ∧ lanesA A ≤ 12 := by
  have := sumI_rng (f := laneC A) (c := 1) (n := 12) (by omega) (fun j _ _ => laneC_rng j)
  unfold lanesA; omega
theorem lanesWithBars_ok (hc : CV A M b) (hv : Val B A) (h : Φ (lanesA A)) : jC_lanesWithBars b M Φ := by
  unfold jC_lanesWithBars
  refine zfor2 (fun x => sumI (laneC A) x) (n := 12) (by omega) rfl (fun K => ?_) (fun K x x0 x1 hK => ?_)
  · exact ⟨fun _ => h, fun q => absurd (Int.le_refl _) q⟩
  · show jC_lanesWithBars_L4 b K Φ M (sumI (laneC A) x) x
    unfold jC_lanesWithBars_L4
    have hg := sumI_rng (f := laneC A) (c := 1) (n := x) x0 (fun j _ _ => laneC_rng j)
    rw [sumI_s _ x0] at hK
    refine ⟨fun q => by omega, fun q => hasBars_ok hc hv (fun q2 => ⟨fun z => by omega, fun _ => ⟨by omega, ?_⟩⟩) (fun q2 => ⟨fun _ => ⟨by omega, ?_⟩, fun z => absurd rfl z⟩)⟩
    · rintro _ rfl
      refine ⟨by omega, ?_⟩
      rintro _ rfl
      rw [laneC_t q2] at hK
      exact hK
    · rintro _ rfl
      refine ⟨by omega, ?_⟩
      rintro _ rfl
      rw [laneC_f q2] at hK
      exact hK
end RC

