/-! a chart is so: sums turned round, the longest row, strips -/
theorem sumI_add (f g : Int → Int) {n : Int} (hn : 0 ≤ n) : sumI (fun j => f j + g j) n = sumI f n + sumI g n := by
  obtain ⟨m, rfl⟩ := Int.eq_ofNat_of_zero_le hn
  clear hn
  induction m with
  | zero => rfl
  | succ m ih =>
    rw [show ((m + 1 : Nat) : Int) = (m : Int) + 1 by omega, sumI_s _ (by omega), sumI_s _ (by omega), sumI_s _ (by omega), ih]
    omega
theorem sum_swap (f : Int → Int → Int) {a b : Int} (ha : 0 ≤ a) (hb : 0 ≤ b) : sumI (fun k => sumI (fun o => f k o) a) b = sumI (fun o => sumI (fun k => f k o) b) a := by
  obtain ⟨m, rfl⟩ := Int.eq_ofNat_of_zero_le hb
  clear hb
  induction m with
  | zero =>
    rw [show (((0 : Nat) : Int)) = 0 by rfl, sumI_0]
    exact (sumI_zero ha (fun j _ _ => sumI_0 _)).symm
  | succ m ih =>
    rw [show ((m + 1 : Nat) : Int) = (m : Int) + 1 by omega, sumI_s _ (by omega), ih, ← sumI_add _ _ ha]
    exact sumI_congr (fun j _ _ => (sumI_s (fun k => f k j) (by omega)).symm)
theorem pts_twice {A : zA} (ha : 0 ≤ A 6 0) : sumI (ptsOf A) (A 6 0) = 2 * ptsA A := by
  have e : sumI (ptsOf A) (A 6 0) = sumI (fun k => sumI (fun o => crossN A k o) (A 6 0) + sumI (fun o => crossN A o k) (A 6 0)) (A 6 0) := sumI_congr (fun k _ _ => by
    unfold ptsOf
    exact sumI_add _ _ ha)
  rw [e, sumI_add _ _ ha, ← sum_swap (fun o k => crossN A o k) ha ha]
  have p : ptsA A = sumI (fun k => sumI (fun o => crossN A k o) (A 6 0)) (A 6 0) := rfl
  rw [p]
  omega
theorem row_le {B : Int} {A : zA} (hv : Val B A) {R : Int → Int} (hR : RowP A R) : ∀ (m : Nat) (j : Int), 0 ≤ j → j < A 0 0 → (A 4 j).toNat ≤ m → R j ≤ endA A j := by
  intro m
  induction m with
  | zero =>
    intro j j0 j1 hm
    have dj := hv.day j j0 j1
    rcases (hR.1 j j0 j1).2.2 with e | ⟨i, i0, i1, hp, e⟩
    · unfold endA; omega
    · have lt := push_lt hv i0 i1 j0 j1 hp
      have di := hv.day i i0 i1
      omega
  | succ m ih =>
    intro j j0 j1 hm
    have dj := hv.day j j0 j1
    rcases (hR.1 j j0 j1).2.2 with e | ⟨i, i0, i1, hp, e⟩
    · unfold endA; omega
    · have lt := push_lt hv i0 i1 j0 j1 hp
      have pe := push_end hv i0 i1 j0 j1 hp
      have di := hv.day i i0 i1
      have := ih i i0 i1 (by omega)
      unfold endA at *
      omega
theorem longest_le {B : Int} {A : zA} (hv : Val B A) {R : Int → Int} (hR : RowP A R) : mxI R (A 0 0) ≤ gEnd A :=
  mxI_le (gEnd_rng hv).1 (fun j j0 j1 => Int.le_trans (row_le hv hR _ j j0 j1 (Nat.le_refl _)) (mxI_ub (f := endA A) j0 j1))
theorem late_gEnd {B : Int} {A : zA} (hv : Val B A) {E : Int → Int} (hE : LateP A (gEnd A) E) : mxI (fun j => E j + A 5 j) (A 0 0) = gEnd A := by
  have a : mxI (fun j => E j + A 5 j) (A 0 0) ≤ gEnd A := mxI_le (gEnd_rng hv).1 (fun j j0 j1 => (hE.1 j j0 j1).1)
  have b : gEnd A ≤ mxI (fun j => E j + A 5 j) (A 0 0) := mxI_le (mxI_nn _ _) (fun j j0 j1 => by
    have u := mxI_ub (f := fun j => E j + A 5 j) (n := A 0 0) j0 j1
    have u : E j + A 5 j ≤ mxI (fun j => E j + A 5 j) (A 0 0) := u
    have g := (hE.1 j j0 j1).2.1
    unfold endA
    omega)
  omega
def bef (A : zA) (d : Int) : Int := cntA (fun j => decide (A 4 j < d)) (A 0 0)
theorem cnt_split (f : Int → Int) {a c : Int} (hac : a ≤ c) {n : Int} (hn : 0 ≤ n) : cntA (fun j => decide (f j < a)) n + cntA (fun j => decide (a ≤ f j ∧ f j < c)) n = cntA (fun j => decide (f j < c)) n := by
  obtain ⟨m, rfl⟩ := Int.eq_ofNat_of_zero_le hn
  clear hn
  induction m with
  | zero => rfl
  | succ m ih =>
    rw [show ((m + 1 : Nat) : Int) = (m : Int) + 1 by omega]
    by_cases h1 : f m < a
    · rw [cntA_t (by omega) (decide_eq_true h1), cntA_f (p := fun j => decide (a ≤ f j ∧ f j < c)) (by omega) (fun z => by have z := of_decide_eq_true z; omega), cntA_t (p := fun j => decide (f j < c)) (by omega) (decide_eq_true (by omega))]
      omega
    · rw [cntA_f (p := fun j => decide (f j < a)) (by omega) (fun z => h1 (of_decide_eq_true z))]
      by_cases h2 : f m < c
      · rw [cntA_t (p := fun j => decide (a ≤ f j ∧ f j < c)) (by omega) (decide_eq_true ⟨by omega, h2⟩), cntA_t (p := fun j => decide (f j < c)) (by omega) (decide_eq_true h2)]
        omega
      · rw [cntA_f (p := fun j => decide (a ≤ f j ∧ f j < c)) (by omega) (fun z => h2 (of_decide_eq_true z).2), cntA_f (p := fun j => decide (f j < c)) (by omega) (fun z => h2 (of_decide_eq_true z))]
        omega
theorem bef_s {B : Int} {A : zA} (hv : Val B A) {s e : Int} (h : s ≤ e) : bef A s + begunN A s e = bef A e := cnt_split (A 4) h hv.n.1
theorem bef_0 {B : Int} {A : zA} (hv : Val B A) : bef A 0 = 0 := cntA_zero hv.n.1 (fun j j0 j1 z => by have z := of_decide_eq_true z; have := hv.day j j0 j1; omega)
theorem cntA_all {p : Int → Bool} {n : Int} (hn : 0 ≤ n) (h : ∀ j, 0 ≤ j → j < n → p j = true) : cntA p n = n := by
  obtain ⟨m, rfl⟩ := Int.eq_ofNat_of_zero_le hn
  clear hn
  induction m with
  | zero => rfl
  | succ m ih =>
    have i := ih (fun j j0 j1 => h j j0 (by omega))
    rw [show ((m + 1 : Nat) : Int) = (m : Int) + 1 by omega, cntA_t (by omega) (h m (by omega) (by omega)), i]
theorem bef_end {B : Int} {A : zA} (hv : Val B A) : bef A (gEnd A) = A 0 0 := cntA_all hv.n.1 (fun j j0 j1 => decide_eq_true (by
  have := bar_gEnd hv j0 j1
  have := hv.day j j0 j1
  unfold endA at *
  omega))
theorem begun_rng {B : Int} {A : zA} (hv : Val B A) (s e : Int) : 0 ≤ begunN A s e ∧ begunN A s e ≤ 30 := by
  have := cntA_rng (p := fun j => decide (s ≤ A 4 j ∧ A 4 j < e)) hv.n.1
  have := hv.n
  unfold begunN
  omega
theorem bef_rng {B : Int} {A : zA} (hv : Val B A) (s : Int) : 0 ≤ bef A s ∧ bef A s ≤ 30 := by
  have := cntA_rng (p := fun j => decide (A 4 j < s)) hv.n.1
  have := hv.n
  unfold bef
  omega
theorem plc_0 (A : zA) : plc A 0 = 0 := rfl
/-! the numbers passed by, as places -/
def upTo (f : Int → Int) (n x t : Int) : Prop := (0 ≤ t ∧ t ≤ n) ∧ ∀ j, 0 ≤ j → j < n → (f j < x ↔ j < t)
theorem upTo_0 {f : Int → Int} {n : Int} (hn : 0 ≤ n) (h : ∀ j, 0 ≤ j → j < n → 0 ≤ f j) : upTo f n 0 0 := ⟨⟨Int.le_refl _, hn⟩, fun j j0 j1 => by have := h j j0 j1; omega⟩
theorem upTo_no {f : Int → Int} {n x t : Int} (h : upTo f n x t) (hno : ∀ j, 0 ≤ j → j < n → f j ≠ x) : upTo f n (x + 1) t := ⟨h.1, fun j j0 j1 => by have a := h.2 j j0 j1; have b := hno j j0 j1; omega⟩
theorem upTo_at {f : Int → Int} {n x t s : Int} (hf : ∀ i j, 0 ≤ i → i < j → j < n → f i < f j) (h : upTo f n x t) (s0 : 0 ≤ s) (s1 : s < n) (e : f s = x) : s = t ∧ upTo f n (x + 1) (t + 1) := by
  have a := h.2 s s0 s1
  have es : s = t := by
    rcases Int.lt_trichotomy s t with z | z | z
    · have := a.mpr z; omega
    · exact z
    · have m := hf t s h.1.1 z s1
      have c := (h.2 t h.1.1 (by omega)).mp (by omega)
      omega
  refine ⟨es, ⟨by have := h.1; omega, by omega⟩, fun j j0 j1 => ?_⟩
  have c := h.2 j j0 j1
  rcases Int.lt_trichotomy j s with z | z | z
  · have := hf j s j0 z s1; omega
  · subst z; omega
  · have := hf s j s0 z j1; omega
theorem upTo_end {f : Int → Int} {n x t : Int} (h : upTo f n x t) (hx : ∀ j, 0 ≤ j → j < n → f j < x) : t = n := by
  have h1 := h.1
  by_cases e : t < n
  · have := (h.2 t h1.1 e).mp (hx t h1.1 e); omega
  · omega
