/-! bends: what they are, and the class's side -/
theorem cntA_const {p : Int → Bool} {m n : Int} (h0 : 0 ≤ m) (h1 : m ≤ n) (h : ∀ j, m ≤ j → j < n → ¬ p j = true) : cntA p n = cntA p m := by
  obtain ⟨k, hk⟩ := Int.eq_ofNat_of_zero_le (show 0 ≤ n - m by omega)
  induction k generalizing n with
  | zero => rw [show n = m by omega]
  | succ k ih =>
    have h3 := ih (n := n - 1) (by omega) (fun j j0 j1 => h j j0 (by omega)) (by omega)
    have h4 := cntA_f (p := p) (n := n - 1) (by omega) (h (n - 1) (by omega) (by omega))
    rw [show n - 1 + 1 = n by omega] at h4
    omega
theorem cntA_zero {p : Int → Bool} {n : Int} (h0 : 0 ≤ n) (h : ∀ j, 0 ≤ j → j < n → ¬ p j = true) : cntA p n = 0 := cntA_const (Int.le_refl 0) h0 h
theorem CV.same {A : zA} {M M' : zM} {b : Nat} (hc : CV A M b) (h : ∀ a, b ≤ a → a < b + 10 → M' a = M a) : CV A M' b := by
  unfold CV at *
  rw [h b (by omega) (by omega), h (b + 1) (by omega) (by omega), h (b + 2) (by omega) (by omega), h (b + 3) (by omega) (by omega), h (b + 4) (by omega) (by omega), h (b + 5) (by omega) (by omega), h (b + 6) (by omega) (by omega), h (b + 7) (by omega) (by omega), h (b + 8) (by omega) (by omega), h (b + 9) (by omega) (by omega)]
  exact hc
theorem zCh.lt {b : Nat} (h : zCh b) : b + 10 ≤ 70 := by unfold zCh at h; omega
def eF (A : zA) (k : Int) : Int := endA A (A 9 k)
def fT (A : zA) (k : Int) : Int := A 4 (A 10 k)
def lF (A : zA) (k : Int) : Int := A 3 (A 9 k)
def lT (A : zA) (k : Int) : Int := A 3 (A 10 k)
def sh2 (A : zA) (k c : Int) : Prop := ∃ j, 0 ≤ j ∧ j < A 0 0 ∧ inBar A (lF A k) (eF A k) (c - 1) (-5) j
def sh3 (A : zA) (k c : Int) : Prop := ∃ j, 0 ≤ j ∧ j < A 0 0 ∧ inBar A (lT A k) c (fT A k - 1) (-5) j
def sh4 (A : zA) (k c : Int) : Prop := ∃ j, 0 ≤ j ∧ j < A 0 0 ∧ (min (lF A k) (lT A k) < A 3 j ∧ A 3 j < max (lF A k) (lT A k)) ∧ A 4 j ≤ c - 1 ∧ c < endA A j
def freeP (A : zA) (k c : Int) : Prop := (eF A k ≤ c ∧ c ≤ fT A k) ∧ ¬ sh2 A k c ∧ ¬ sh3 A k c ∧ ¬ sh4 A k c
noncomputable def reasonA (A : zA) (k c : Int) : Int := by classical exact if ¬ (eF A k ≤ c ∧ c ≤ fT A k) then 1 else if sh2 A k c then 2 else if sh3 A k c then 3 else if sh4 A k c then 4 else 0
theorem reason1 {A : zA} {k c : Int} (h : ¬ (eF A k ≤ c ∧ c ≤ fT A k)) : reasonA A k c = 1 := by unfold reasonA; rw [if_pos h]
theorem reason2 {A : zA} {k c : Int} (h : eF A k ≤ c ∧ c ≤ fT A k) (h2 : sh2 A k c) : reasonA A k c = 2 := by unfold reasonA; rw [if_neg (fun z => z h), if_pos h2]
theorem reason3 {A : zA} {k c : Int} (h : eF A k ≤ c ∧ c ≤ fT A k) (h2 : ¬ sh2 A k c) (h3 : sh3 A k c) : reasonA A k c = 3 := by unfold reasonA; rw [if_neg (fun z => z h), if_neg h2, if_pos h3]
theorem reason4 {A : zA} {k c : Int} (h : eF A k ≤ c ∧ c ≤ fT A k) (h2 : ¬ sh2 A k c) (h3 : ¬ sh3 A k c) (h4 : sh4 A k c) : reasonA A k c = 4 := by unfold reasonA; rw [if_neg (fun z => z h), if_neg h2, if_neg h3, if_pos h4]
theorem reason0 {A : zA} {k c : Int} (h : freeP A k c) : reasonA A k c = 0 := by unfold reasonA; rw [if_neg (fun z => z h.1), if_neg h.2.1, if_neg h.2.2.1, if_neg h.2.2.2]
theorem reason_0 {A : zA} {k c : Int} (h : ¬ freeP A k c) : ¬ reasonA A k c = 0 := by
  intro e
  by_cases h1 : eF A k ≤ c ∧ c ≤ fT A k
  · by_cases h2 : sh2 A k c
    · rw [reason2 h1 h2] at e; omega
    · by_cases h3 : sh3 A k c
      · rw [reason3 h1 h2 h3] at e; omega
      · by_cases h4 : sh4 A k c
        · rw [reason4 h1 h2 h3 h4] at e; omega
        · exact h ⟨h1, h2, h3, h4⟩
  · rw [reason1 h1] at e; omega
theorem eF_rng {B : Int} {A : zA} (hv : Val B A) {k : Int} (h0 : 0 ≤ k) (h1 : k < A 6 0) : 1 ≤ eF A k ∧ eF A k ≤ 200 := by
  have v6 := hv.from k h0 h1
  have d := hv.day (A 9 k) v6.1 v6.2
  unfold eF endA; omega
theorem fT_rng {B : Int} {A : zA} (hv : Val B A) {k : Int} (h0 : 0 ≤ k) (h1 : k < A 6 0) : 0 ≤ fT A k ∧ fT A k ≤ 199 := by
  have v6 := hv.to k h0 h1
  have d := hv.day (A 10 k) v6.1 v6.2
  unfold fT; omega
def HiP (A : zA) (k h : Int) : Prop := h ≤ fT A k ∧ (∀ j, 0 ≤ j → j < A 0 0 → A 3 j = lF A k → A 4 (A 9 k) < A 4 j → h ≤ A 4 j) ∧ (h = fT A k ∨ ∃ j, 0 ≤ j ∧ j < A 0 0 ∧ A 3 j = lF A k ∧ A 4 (A 9 k) < A 4 j ∧ h = A 4 j)
def LoP (A : zA) (k h : Int) : Prop := eF A k ≤ h ∧ (∀ j, 0 ≤ j → j < A 0 0 → A 3 j = lT A k → A 4 j < fT A k → endA A j ≤ h) ∧ (h = eF A k ∨ ∃ j, 0 ≤ j ∧ j < A 0 0 ∧ A 3 j = lT A k ∧ A 4 j < fT A k ∧ h = endA A j)
theorem hi_iff {B : Int} {A : zA} (hv : Val B A) {k h c : Int} (k0 : 0 ≤ k) (k1 : k < A 6 0) (hh : HiP A k h) (hc : eF A k ≤ c ∧ c ≤ fT A k) : c ≤ h ↔ ¬ sh2 A k c := by
  have v6 := hv.from k k0 k1
  have d := hv.day (A 9 k) v6.1 v6.2
  constructor
  · rintro q ⟨j, j0, j1, i1, i2, i3, i4, i5⟩
    have dj := hv.day j j0 j1
    have ap := hv.apart j (A 9 k) j0 j1 v6.1 v6.2 (fun e => by subst e; unfold eF at i5; omega) i3
    have h2 := hh.2.1 j j0 j1 i3
    unfold eF endA at *
    omega
  · intro q
    rcases hh.2.2 with e | ⟨j, j0, j1, i3, i4, i5⟩
    · omega
    · refine Int.not_lt.mp (fun z => q ⟨j, j0, j1, by omega, ?_⟩)
      have dj := hv.day j j0 j1
      have ap := hv.apart j (A 9 k) j0 j1 v6.1 v6.2 (fun e => by subst e; omega) i3
      unfold eF endA at *
      exact ⟨by omega, i3, by omega, by omega⟩
theorem lo_iff {B : Int} {A : zA} (hv : Val B A) {k h c : Int} (k0 : 0 ≤ k) (k1 : k < A 6 0) (hh : LoP A k h) (hc : eF A k ≤ c ∧ c ≤ fT A k) : h ≤ c ↔ ¬ sh3 A k c := by
  constructor
  · rintro q ⟨j, j0, j1, i1, i2, i3, i4, i5⟩
    have h2 := hh.2.1 j j0 j1 i3 (by omega)
    omega
  · intro q
    rcases hh.2.2 with e | ⟨j, j0, j1, i3, i4, i5⟩
    · omega
    · refine Int.not_lt.mp (fun z => q ⟨j, j0, j1, by omega, ?_⟩)
      have v6 := hv.to k k0 k1
      have d := hv.day (A 10 k) v6.1 v6.2
      have dj := hv.day j j0 j1
      have ap := hv.apart j (A 10 k) j0 j1 v6.1 v6.2 (fun e => by subst e; unfold fT at i4; omega) i3
      unfold fT endA at *
      exact ⟨by omega, i3, by omega, by omega⟩
def BarredP (A : zA) (M : zM) : Prop := ∀ c, 0 ≤ c → c < 200 → ∀ i, 0 ≤ i → i < 32 → (bI (M 84 c) i = true ↔ ∃ j, 0 ≤ j ∧ j < A 0 0 ∧ A 3 j = i ∧ A 4 j + 1 ≤ c ∧ c < endA A j)
section RD
variable {A : zA} {M : zM} {b : Nat} {B : Int} {Φ : Int → Prop}
theorem lanesBetween_ok (hc : CV A M b) (hv : Val B A) {k : Int} (h0 : 0 ≤ k) (h1 : k < A 6 0) (h : Φ (lmask (min (lF A k) (lT A k)) (max (lF A k) (lT A k)))) : jD_lanesBetween b k M Φ := by
  have hn := hv.n
  have ha := hv.a
  have c5_k := hc.anum k (by omega) (by omega)
  have c6_k := hc.from k (by omega) (by omega)
  have c7_k := hc.to k (by omega) (by omega)
  have v5_k := hv.anum k (by omega) (by omega)
  have v6_k := hv.from k (by omega) (by omega)
  have v7_k := hv.to k (by omega) (by omega)
  have l1 := hv.lane (A 9 k) v6_k.1 v6_k.2
  have l2 := hv.lane (A 10 k) v7_k.1 v7_k.2
  have lm := lm_ok (lo := min (lF A k) (lT A k)) (hi := max (lF A k) (lT A k)) (i := 0) (by unfold lF lT; omega) (by unfold lF lT; omega) (by omega)
  unfold jD_lanesBetween
  rw [c6_k, c7_k, hc.lane (A 9 k) v6_k.1 v6_k.2, hc.lane (A 10 k) v7_k.1 v7_k.2]
  refine ⟨by omega, by omega, by omega, by omega, ?_⟩
  rintro _ rfl
  refine ⟨by omega, by omega, by omega, by omega, ?_⟩
  rintro _ rfl
  refine ⟨lm.1.1, ?_⟩
  rintro _ rfl
  refine ⟨lm.1.2, ?_⟩
  rintro _ rfl
  exact h
theorem highest_ok (hc : CV A M b) (hv : Val B A) {k : Int} (h0 : 0 ≤ k) (h1 : k < A 6 0) (h : ∀ c, HiP A k c → Φ c) : jD_highest b k M Φ := by
  have hn := hv.n
  have ha := hv.a
  have c5_k := hc.anum k (by omega) (by omega)
  have c6_k := hc.from k (by omega) (by omega)
  have c7_k := hc.to k (by omega) (by omega)
  have v5_k := hv.anum k (by omega) (by omega)
  have v6_k := hv.from k (by omega) (by omega)
  have v7_k := hv.to k (by omega) (by omega)
  unfold jD_highest
  rw [c6_k, c7_k]
  refine ⟨by omega, by omega, ?_⟩
  rintro _ rfl
  refine ⟨by omega, by omega, by omega, by omega, ?_⟩
  rw [hc.first (A 10 k) v7_k.1 v7_k.2]
  rintro _ rfl
  refine zfor2i (fun a x => a ≤ fT A k ∧ (∀ j, 0 ≤ j → j < x → A 3 j = lF A k → A 4 (A 9 k) < A 4 j → a ≤ A 4 j) ∧ (a = fT A k ∨ ∃ j, 0 ≤ j ∧ j < A 0 0 ∧ A 3 j = lF A k ∧ A 4 (A 9 k) < A 4 j ∧ a = A 4 j)) (n := A 0 0) hn.1 ⟨Int.le_refl _, fun j j0 j1 => by omega, Or.inl rfl⟩ (fun K a hI => ?_) (fun K a x x0 x1 hI hK => ?_)
  · show jD_highest_L23 b k K Φ (A 9 k) M a (A 0 0)
    unfold jD_highest_L23
    rw [hc.n]
    exact ⟨fun _ => h a hI, fun q => absurd (Int.le_refl _) q⟩
  · show jD_highest_L23 b k K Φ (A 9 k) M a x
    have c1_x := hc.num x (by omega) (by omega)
    have c2_x := hc.lane x (by omega) (by omega)
    have c3_x := hc.first x (by omega) (by omega)
    have c4_x := hc.days x (by omega) (by omega)
    have v1_x := hv.num x (by omega) (by omega)
    have v2_x := hv.lane x (by omega) (by omega)
    have v3_x := hv.day x (by omega) (by omega)
    have nx : (A 3 x = lF A k → A 4 (A 9 k) < A 4 x → a ≤ A 4 x) → K (a, x + 1) := fun q => hK a ⟨hI.1, fun j j0 j1 => if e : j = x then e ▸ q else hI.2.1 j j0 (by omega), hI.2.2⟩
    unfold jD_highest_L23
    rw [hc.n, c2_x, c3_x, hc.lane (A 9 k) v6_k.1 v6_k.2, hc.first (A 9 k) v6_k.1 v6_k.2]
    refine ⟨fun q => by omega, fun q => ⟨by omega, by omega, by omega, by omega, fun e => ⟨by omega, fun v hv => hv ▸ nx (fun z => absurd z e)⟩, fun e => ⟨by omega, by omega, by omega, by omega, fun e2 => ⟨by omega, fun v hv => hv ▸ nx (fun _ z => by omega)⟩, fun e2 => ⟨by omega, by omega, ?_⟩⟩⟩⟩
    rintro _ rfl
    refine ⟨by omega, ?_⟩
    rintro _ rfl
    refine hK _ ⟨by have := hI.1; omega, fun j j0 j1 t1 t2 => if e3 : j = x then by rw [e3]; omega else by have := hI.2.1 j j0 (by omega) t1 t2; omega, ?_⟩
    by_cases q2 : a ≤ A 4 x
    · rw [show min a (A 4 x) = a by omega]; exact hI.2.2
    · rw [show min a (A 4 x) = A 4 x by omega]; exact Or.inr ⟨x, x0, x1, e, by omega, rfl⟩
theorem lowest_ok (hc : CV A M b) (hv : Val B A) {k : Int} (h0 : 0 ≤ k) (h1 : k < A 6 0) (h : ∀ c, LoP A k c → Φ c) : jD_lowest b k M Φ := by
  have hn := hv.n
  have ha := hv.a
  have c5_k := hc.anum k (by omega) (by omega)
  have c6_k := hc.from k (by omega) (by omega)
  have c7_k := hc.to k (by omega) (by omega)
  have v5_k := hv.anum k (by omega) (by omega)
  have v6_k := hv.from k (by omega) (by omega)
  have v7_k := hv.to k (by omega) (by omega)
  unfold jD_lowest
  rw [c6_k, c7_k]
  refine ⟨by omega, by omega, ?_⟩
  rintro _ rfl
  refine ⟨by omega, by omega, endOf_ok hc hv v6_k.1 v6_k.2 ?_⟩
  refine zfor2i (fun a x => eF A k ≤ a ∧ (∀ j, 0 ≤ j → j < x → A 3 j = lT A k → A 4 j < fT A k → endA A j ≤ a) ∧ (a = eF A k ∨ ∃ j, 0 ≤ j ∧ j < A 0 0 ∧ A 3 j = lT A k ∧ A 4 j < fT A k ∧ a = endA A j)) (n := A 0 0) hn.1 ⟨Int.le_refl _, fun j j0 j1 => by omega, Or.inl rfl⟩ (fun K a hI => ?_) (fun K a x x0 x1 hI hK => ?_)
  · show jD_lowest_L22 b k K Φ (A 10 k) M a (A 0 0)
    unfold jD_lowest_L22
    rw [hc.n]
    exact ⟨fun _ => h a hI, fun q => absurd (Int.le_refl _) q⟩
  · show jD_lowest_L22 b k K Φ (A 10 k) M a x
    have c1_x := hc.num x (by omega) (by omega)
    have c2_x := hc.lane x (by omega) (by omega)
    have c3_x := hc.first x (by omega) (by omega)
    have c4_x := hc.days x (by omega) (by omega)
    have v1_x := hv.num x (by omega) (by omega)
    have v2_x := hv.lane x (by omega) (by omega)
    have v3_x := hv.day x (by omega) (by omega)
    have nx : (A 3 x = lT A k → A 4 x < fT A k → endA A x ≤ a) → K (a, x + 1) := fun q => hK a ⟨hI.1, fun j j0 j1 => if e : j = x then e ▸ q else hI.2.1 j j0 (by omega), hI.2.2⟩
    unfold jD_lowest_L22
    rw [hc.n, c2_x, c3_x, hc.lane (A 10 k) v7_k.1 v7_k.2, hc.first (A 10 k) v7_k.1 v7_k.2]
    refine ⟨fun q => by omega, fun q => ⟨by omega, by omega, by omega, by omega, fun e => ⟨by omega, fun v hv => hv ▸ nx (fun z => absurd z e)⟩, fun e => ⟨by omega, by omega, by omega, by omega, fun e2 => ⟨by omega, fun v hv => hv ▸ nx (fun _ z => by unfold fT at z; omega)⟩, fun e2 => endOf_ok hc hv x0 x1 ?_⟩⟩⟩
    rintro _ rfl
    refine ⟨by omega, ?_⟩
    rintro _ rfl
    show K (max a (endA A x), x + 1)
    refine hK _ ⟨by have := hI.1; omega, fun j j0 j1 t1 t2 => if e3 : j = x then by rw [e3]; omega else by have := hI.2.1 j j0 (by omega) t1 t2; omega, ?_⟩
    by_cases q2 : endA A x ≤ a
    · rw [show max a (endA A x) = a by omega]; exact hI.2.2
    · rw [show max a (endA A x) = endA A x by omega]; exact Or.inr ⟨x, x0, x1, e, by unfold fT; omega, rfl⟩
theorem readBars_ok (hc : CV A M b) (hv : Val B A) (hb : zCh b) {Φ : zM → Prop} (h : ∀ M', (∀ a, a ≠ 84 → M' a = M a) → BarredP A M' → Φ M') : jD_readBars b M Φ := by
  have hn := hv.n
  have hb2 := hb.lt
  unfold jD_readBars
  rintro _ rfl
  have z0 : ∀ (x : Int) (M' : zM), (∀ a, a ≠ 84 → M' a = M a) → CV A M' b := fun x M' h => hc.same (fun a a0 a1 => h a (by omega))
  refine zwh_run (fun s => 0 ≤ s.1 ∧ s.1 ≤ A 0 0 ∧ (∀ a, a ≠ 84 → s.2 a = M a) ∧ ∀ c, 0 ≤ c → c < 200 → ∀ i, 0 ≤ i → i < 32 → (bI (s.2 84 c) i = true ↔ ∃ j, 0 ≤ j ∧ j < s.1 ∧ A 3 j = i ∧ A 4 j + 1 ≤ c ∧ c < endA A j)) (fun s => (A 0 0 - s.1).toNat) ?_ (0, _) ⟨Int.le_refl 0, hn.1, fun a ha => by funext c; show zfl M 84 200 0 a c = M a c; unfold zfl; rw [if_neg (by omega)], fun c c0 c1 i i0 i1 => ?_⟩
  · rintro K ⟨x, M1⟩ ⟨x0, x1, hs, hbits⟩ hK
    have x0 : 0 ≤ x := x0
    have x1 : x ≤ A 0 0 := x1
    have hs : ∀ a, a ≠ 84 → M1 a = M a := hs
    show jD_readBars_L10 b K Φ x M1
    have hc1 := z0 x M1 hs
    unfold jD_readBars_L10
    rw [hc1.n]
    refine ⟨fun q => h M1 hs (fun c c0 c1 i i0 i1 => ?_), fun q => ?_⟩
    · have e : x = A 0 0 := by omega
      subst e
      exact hbits c c0 c1 i i0 i1
    · have vx := hv.day x x0 (by omega)
      have lx := hv.lane x x0 (by omega)
      refine endOf_ok hc1 hv x0 (by omega) ?_
      rintro _ rfl
      rw [hc1.first x x0 (by omega)]
      refine ⟨by omega, by omega, by omega, ?_⟩
      rintro _ rfl
      rw [show min 200 (A 4 x + A 5 x) = A 4 x + A 5 x by omega]
      refine zwh_run (fun s => A 4 x + 1 ≤ s.1 ∧ s.1 ≤ endA A x ∧ (∀ a, a ≠ 84 → s.2 a = M a) ∧ ∀ c, 0 ≤ c → c < 200 → ∀ i, 0 ≤ i → i < 32 → (bI (s.2 84 c) i = true ↔ (∃ j, 0 ≤ j ∧ j < x ∧ A 3 j = i ∧ A 4 j + 1 ≤ c ∧ c < endA A j) ∨ (A 3 x = i ∧ A 4 x + 1 ≤ c ∧ c < s.1))) (fun s => (endA A x - s.1).toNat) ?_ (_, _) ⟨Int.le_refl _, by show A 4 x + 1 ≤ endA A x; unfold endA; omega, hs, fun c c0 c1 i i0 i1 => ?_⟩
      · rintro K2 ⟨y, M2⟩ ⟨y0, y1, hs2, hbits2⟩ hK2
        have y0 : A 4 x + 1 ≤ y := y0
        have y1 : y ≤ endA A x := y1
        have hs2 : ∀ a, a ≠ 84 → M2 a = M a := hs2
        have hc2 := z0 x M2 hs2
        show jD_readBars_L40 b K K2 Φ x (A 4 x + A 5 x) y M2
        unfold jD_readBars_L40
        rw [hc2.lane x x0 (by omega)]
        unfold endA at y1
        refine ⟨fun q2 => ⟨by omega, ?_⟩, fun q2 => ⟨by omega, by omega, by omega, by omega, by omega, by omega, ?_⟩⟩
        · rintro _ rfl
          refine hK (x + 1, M2) ⟨by show 0 ≤ x + 1; omega, by show x + 1 ≤ A 0 0; omega, hs2, fun c c0 c1 i i0 i1 => (hbits2 c c0 c1 i i0 i1).trans ?_⟩ (by show (A 0 0 - (x + 1)).toNat < (A 0 0 - x).toNat; omega)
          show ((∃ j, 0 ≤ j ∧ j < x ∧ A 3 j = i ∧ A 4 j + 1 ≤ c ∧ c < endA A j) ∨ (A 3 x = i ∧ A 4 x + 1 ≤ c ∧ c < y)) ↔ ∃ j, 0 ≤ j ∧ j < x + 1 ∧ A 3 j = i ∧ A 4 j + 1 ≤ c ∧ c < endA A j
          constructor
          · rintro (⟨j, j0, j1, t⟩ | ⟨t1, t2, t3⟩)
            · exact ⟨j, j0, by omega, t⟩
            · exact ⟨x, x0, by omega, t1, t2, by unfold endA; omega⟩
          · rintro ⟨j, j0, j1, t1, t2, t3⟩
            by_cases e : j = x
            · subst e; exact Or.inr ⟨t1, t2, by unfold endA at t3; omega⟩
            · exact Or.inl ⟨j, j0, by omega, t1, t2, t3⟩
        · rintro _ rfl
          refine ⟨by omega, ?_⟩
          rintro _ rfl
          refine hK2 (y + 1, _) ⟨by show A 4 x + 1 ≤ y + 1; omega, by show y + 1 ≤ endA A x; unfold endA; omega, fun a ha => by rw [← hs2 a ha]; exact zup_other ha, fun c c0 c1 i i0 i1 => ?_⟩ (by show (endA A x - (y + 1)).toNat < (endA A x - y).toNat; unfold endA; omega)
          show bI (zup M2 84 y (zor (M2 84 y) (zshl 1 (A 3 x))) 84 c) i = true ↔ (∃ j, 0 ≤ j ∧ j < x ∧ A 3 j = i ∧ A 4 j + 1 ≤ c ∧ c < endA A j) ∨ (A 3 x = i ∧ A 4 x + 1 ≤ c ∧ c < y + 1)
          have h2 := hbits2 c c0 c1 i i0 i1
          have h2 : bI (M2 84 c) i = true ↔ (∃ j, 0 ≤ j ∧ j < x ∧ A 3 j = i ∧ A 4 j + 1 ≤ c ∧ c < endA A j) ∨ (A 3 x = i ∧ A 4 x + 1 ≤ c ∧ c < y) := h2
          unfold zup
          by_cases e : c = y
          · subst e
            rw [if_pos ⟨rfl, rfl⟩, bI_or, Bool.or_eq_true, h2, bI_1 (by omega) ⟨i0, i1⟩, decide_eq_true_iff]
            constructor
            · rintro ((t | t) | t)
              · exact Or.inl t
              · omega
              · exact Or.inr ⟨t.symm, y0, by omega⟩
            · rintro (t | t)
              · exact Or.inl (Or.inl t)
              · exact Or.inr t.1.symm
          · rw [if_neg (by omega), h2]
            constructor
            · rintro (t | t)
              · exact Or.inl t
              · exact Or.inr ⟨t.1, t.2.1, by omega⟩
            · rintro (t | t)
              · exact Or.inl t
              · exact Or.inr ⟨t.1, t.2.1, by omega⟩
      · refine (hbits c c0 c1 i i0 i1).trans ?_
        constructor
        · exact Or.inl
        · rintro (t | t)
          · exact t
          · have := t.2.2
            have : c < A 4 x + 1 := this
            omega
  · show bI (zfl M 84 200 0 84 c) i = true ↔ ∃ j, 0 ≤ j ∧ j < 0 ∧ A 3 j = i ∧ A 4 j + 1 ≤ c ∧ c < endA A j
    unfold zfl
    rw [if_pos ⟨rfl, c0, c1⟩, bI_0]
    constructor
    · intro t; cases t
    · rintro ⟨j, j0, j1, _⟩; omega
theorem barred_iff (hv : Val B A) (hb : BarredP A M) {k c : Int} (k0 : 0 ≤ k) (k1 : k < A 6 0) (c0 : 0 ≤ c) (c1 : c < 200) : zand (M 84 c) (lmask (min (lF A k) (lT A k)) (max (lF A k) (lT A k))) = 0 ↔ ¬ sh4 A k c := by
  have v6 := hv.from k k0 k1
  have v7 := hv.to k k0 k1
  have l1 := hv.lane (A 9 k) v6.1 v6.2
  have l2 := hv.lane (A 10 k) v7.1 v7.2
  rw [zand_0]
  have lm : ∀ i, 0 ≤ i → i < 32 → (bI (lmask (min (lF A k) (lT A k)) (max (lF A k) (lT A k))) i = true ↔ (min (lF A k) (lT A k) < i ∧ i < max (lF A k) (lT A k))) := fun i i0 i1 => by
    rw [(lm_ok (lo := min (lF A k) (lT A k)) (hi := max (lF A k) (lT A k)) (i := i) (by unfold lF lT; omega) (by unfold lF lT; omega) ⟨i0, i1⟩).2, decide_eq_true_iff]
  constructor
  · rintro q ⟨j, j0, j1, t1, t2, t3⟩
    have lj := hv.lane j j0 j1
    exact q (A 3 j) (by omega) (by omega) ⟨(hb c c0 c1 _ (by omega) (by omega)).mpr ⟨j, j0, j1, rfl, by omega, t3⟩, (lm _ (by omega) (by omega)).mpr t1⟩
  · rintro q i i0 i1 ⟨t1, t2⟩
    obtain ⟨j, j0, j1, e, t3, t4⟩ := (hb c c0 c1 i i0 i1).mp t1
    exact q ⟨j, j0, j1, by rw [e]; exact (lm i i0 i1).mp t2, by omega, t4⟩
theorem whyShut_ok (hc : CV A M b) (hv : Val B A) (hb : zCh b) {k c : Int} (h0 : 0 ≤ k) (h1 : k < A 6 0) {Φ : Int → zM → Prop} (h : ∀ M', (∀ a, a ≠ 84 → M' a = M a) → Φ (reasonA A k c) M') : jD_whyShut b k c M Φ := by
  have hn := hv.n
  have ha := hv.a
  have hb2 := hb.lt
  have e1 := eF_rng hv h0 h1
  have e2 := fT_rng hv h0 h1
  have c5_k := hc.anum k (by omega) (by omega)
  have c6_k := hc.from k (by omega) (by omega)
  have c7_k := hc.to k (by omega) (by omega)
  have v5_k := hv.anum k (by omega) (by omega)
  have v6_k := hv.from k (by omega) (by omega)
  have v7_k := hv.to k (by omega) (by omega)
  unfold jD_whyShut
  rw [c6_k, c7_k, hc.first (A 10 k) v7_k.1 v7_k.2]
  have h' := h M (fun _ _ => rfl)
  refine ⟨by omega, by omega, endOf_ok hc hv v6_k.1 v6_k.2 ⟨fun q => ?_, fun q => ⟨by omega, by omega, by omega, by omega, fun q2 => highest_ok hc hv h0 h1 (fun hi hhi => ⟨fun q3 => lowest_ok hc hv h0 h1 (fun lo hlo => ⟨fun q4 => readBars_ok hc hv hb (fun M1 hs hbar => ?_), fun q4 => ?_⟩), fun q3 => ?_⟩), fun q2 => ?_⟩⟩⟩
  · have q : c < eF A k := q
    rw [reason1 (by omega)] at h'; exact h'
  · have q : ¬ c < eF A k := q
    have q2 : c ≤ fT A k := q2
    have s2 := (hi_iff hv h0 h1 hhi ⟨by omega, q2⟩).mp q3
    have s3 := (lo_iff hv h0 h1 hlo ⟨by omega, q2⟩).mp q4
    have h1' := h M1 hs
    refine ⟨by omega, by omega, lanesBetween_ok (hc.same (fun a a0 a1 => hs a (by omega))) hv h0 h1 ⟨fun q5 => ?_, fun q5 => ?_⟩⟩
    · have s4 : sh4 A k c := Classical.byContradiction (fun z => q5 ((barred_iff hv hbar h0 h1 (by omega) (by omega)).mpr z))
      rw [reason4 ⟨by omega, q2⟩ s2 s3 s4] at h1'; exact h1'
    · have s4 := (barred_iff hv hbar h0 h1 (by omega) (by omega)).mp q5
      rw [reason0 ⟨⟨by omega, q2⟩, s2, s3, s4⟩] at h1'; exact h1'
  · have q : ¬ c < eF A k := q
    have q2 : c ≤ fT A k := q2
    have s2 := (hi_iff hv h0 h1 hhi ⟨by omega, q2⟩).mp q3
    have s3 : sh3 A k c := Classical.byContradiction (fun z => q4 ((lo_iff hv h0 h1 hlo ⟨by omega, q2⟩).mpr z))
    rw [reason3 ⟨by omega, q2⟩ s2 s3] at h'; exact h'
  · have q : ¬ c < eF A k := q
    have q2 : c ≤ fT A k := q2
    have s2 : sh2 A k c := Classical.byContradiction (fun z => q3 ((hi_iff hv h0 h1 hhi ⟨by omega, q2⟩).mpr z))
    rw [reason2 ⟨by omega, q2⟩ s2] at h'; exact h'
  · have q2 : ¬ c ≤ fT A k := q2
    rw [reason1 (by omega)] at h'; exact h'
end RD

