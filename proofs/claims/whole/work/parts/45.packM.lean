/-! lanes packed anew: the reference -/
theorem zwh_cnt {S : Type} {body : (S → Prop) → S → Prop} (I : Nat → S → Prop) (h : ∀ (K : S → Prop) (m : Nat) (s : S), I m s → (∀ m' s', I m' s' → m' < m → K s') → body K s) : ∀ m s, I m s → zwh body s := by
  have key : ∀ n m s, I m s → m < n → zloop body n s := by
    intro n
    induction n with
    | zero => intro m s _ h; exact absurd h (Nat.not_lt_zero _)
    | succ n ih => intro m s hi hn; exact h _ m s hi (fun m' s' hi' hm => ih m' s' hi' (by omega))
  exact fun m s hi => ⟨m + 1, key _ m s hi (Nat.lt_succ_self _)⟩
section AC
variable {A A' S : zA} {H : Int → zA} {h fl L B : Int} {T : Int → Int} {M M2 Mm Mx Mx' : zM} {b : Nat}
theorem withinR_ok (hr : RV A (M 1)) (hd : dayR A) {w s l but : Int} {Φ : Int → Prop} (ht : ∀ k, 0 ≤ k → k < A 0 0 → inBar A w s l but k → Φ k) (hf : (∀ k, 0 ≤ k → k < A 0 0 → ¬ inBar A w s l but k) → Φ (-5)) : jM_within w s l but M Φ := by
  have hn := hd.1
  unfold jM_within
  refine zfor1 (fun x => ∀ k, 0 ≤ k → k < x → ¬ inBar A w s l but k) (n := A 0 0) hn.1 (fun j _ _ => by omega) (fun K hI => ?_) (fun K x x0 x1 hI hK => ?_)
  · unfold jM_within_L3
    rw [hr.n]
    exact ⟨fun _ => hf hI, fun q => absurd (Int.le_refl _) q⟩
  · have nx : ¬ inBar A w s l but x → (i32 (x + 1) ∧ ∀ v : Int, v = x + 1 → K v) := fun q => ⟨by omega, fun v hv => hv ▸ hK (fun j j0 j1 => if e : j = x then e ▸ q else hI j j0 (by omega))⟩
    have dx := hd.2 x x0 x1
    have ee : endA A x = A 4 x + A 5 x := rfl
    unfold jM_within_L3
    rw [hr.n]
    refine ⟨fun q => by omega, fun q => ⟨fun e => nx (fun z => z.1 e), fun e => ⟨fun e2 => nx (fun z => by have := z.2.1; omega), fun e2 => of_raw x0 (by omega) (by omega) (by omega) ?_⟩⟩⟩
    rw [hr.lane x x0 x1]
    refine ⟨fun e3 => nx (fun z => e3 z.2.2.1), fun e3 => of_raw x0 (by omega) (by omega) (by omega) ?_⟩
    rw [hr.first x x0 x1]
    refine ⟨fun e4 => nx (fun z => by have := z.2.2.2.1; omega), fun e4 => end_raw x0 (by omega) ?_ ?_⟩
    · rw [hr.first x x0 x1, hr.days x x0 x1]; omega
    · rw [hr.first x x0 x1, hr.days x x0 x1]
      exact ⟨fun e5 => nx (fun z => by have := z.2.2.2.2; omega), fun e5 => ht x x0 x1 ⟨e, by omega, e3, by omega, by omega⟩⟩
def bhd (A : zA) (a k : Int) : Prop := a = -5 ∨ LexP A a k
theorem nextByDay_ok (hr : RV A (M 1)) (hd : dayR A) {a : Int} (ha : a = -5 ∨ (0 ≤ a ∧ a < A 0 0)) {Φ : Int → Prop} (k0 : (∀ j, 0 ≤ j → j < A 0 0 → ¬ bhd A a j) → Φ (-5)) (k : ∀ f, 0 ≤ f → f < A 0 0 → bhd A a f → (∀ j, 0 ≤ j → j < A 0 0 → bhd A a j → f = j ∨ LexP A f j) → Φ f) : jM_nextByDay a M Φ := by
  have hn := hd.1
  unfold jM_nextByDay
  refine zfor2i (fun f x => (f = -5 ∧ ∀ j, 0 ≤ j → j < x → ¬ bhd A a j) ∨ (0 ≤ f ∧ f < x ∧ bhd A a f ∧ ∀ j, 0 ≤ j → j < x → bhd A a j → f = j ∨ LexP A f j)) (n := A 0 0) hn.1 (Or.inl ⟨rfl, fun j _ _ => by omega⟩) (fun K f hI => ?_) (fun K f x x0 x1 hI hK => ?_)
  · show jM_nextByDay_L5 a K Φ M f (A 0 0)
    unfold jM_nextByDay_L5
    rw [hr.n]
    refine ⟨fun _ => ?_, fun q => absurd (Int.le_refl _) q⟩
    rcases hI with ⟨rfl, hI⟩ | ⟨f0, f1, hb, hI⟩
    · exact k0 hI
    · exact k f f0 f1 hb hI
  · show jM_nextByDay_L5 a K Φ M f x
    have nx : ¬ bhd A a x → (i32 (x + 1) ∧ ∀ v : Int, v = x + 1 → K (f, v)) := by
      intro q
      refine ⟨by omega, ?_⟩
      rintro _ rfl
      refine hK f ?_
      rcases hI with ⟨e, hI⟩ | ⟨f0, f1, hb, hI⟩
      · exact Or.inl ⟨e, fun j j0 j1 => if e : j = x then e ▸ q else hI j j0 (by omega)⟩
      · exact Or.inr ⟨f0, by omega, hb, fun j j0 j1 hj => if e : j = x then absurd (e ▸ hj) q else hI j j0 (by omega) hj⟩
    have no : ∀ s0, ¬ bhd A a x → jM_nextByDay_J89 a K Φ f x 0 s0 M := by
      intro s0 q
      unfold jM_nextByDay_J89
      exact ⟨fun _ => nx q, fun z => absurd rfl z⟩
    have fr : ∀ (Ψ : Int → Prop), 0 ≤ f → f < x → Ψ (A 4 f) → jM_of f 2 M Ψ := by
      intro Ψ f0 f1 hp
      refine of_raw f0 (by omega) (by omega) (by omega) ?_
      rw [hr.first f f0 (by omega)]
      exact hp
    have xr : ∀ (Ψ : Int → Prop), Ψ (A 4 x) → jM_of x 2 M Ψ := by
      intro Ψ hp
      refine of_raw x0 (by omega) (by omega) (by omega) ?_
      rw [hr.first x x0 x1]
      exact hp
    have J60 : ¬ bhd A a x → jM_nextByDay_J60 a K Φ f x M := by
      intro q
      unfold jM_nextByDay_J60 jM_nextByDay_J61 jM_nextByDay_J84
      refine ⟨fun _ => no _ q, fun e => ?_⟩
      rcases hI with ⟨e2, _⟩ | ⟨f0, f1, _⟩
      · exact absurd e2 e
      · exact xr _ (fr _ f0 f1 ⟨fun _ => no _ q, fun _ => no _ q⟩)
    have J56 : bhd A a x → jM_nextByDay_J56 a K Φ f x M := by
      intro q
      have tx : (f = -5 ∨ A 4 x < A 4 f) → jM_nextByDay_J89 a K Φ f x 1 1 M := by
        intro y
        unfold jM_nextByDay_J89
        refine ⟨fun z => by omega, fun _ => ⟨fun z => by omega, fun _ => ⟨by omega, ?_⟩⟩⟩
        rintro _ rfl
        refine hK x (Or.inr ⟨x0, by omega, q, fun j j0 j1 hj => ?_⟩)
        by_cases e : j = x
        · exact Or.inl e.symm
        · refine Or.inr ?_
          rcases hI with ⟨_, hI⟩ | ⟨f0, f1, hb, hI⟩
          · exact absurd hj (hI j j0 (by omega))
          · have := hI j j0 (by omega) hj
            unfold LexP at this ⊢
            rcases this with z | z
            · subst z; omega
            · omega
      unfold jM_nextByDay_J56 jM_nextByDay_J61 jM_nextByDay_J84
      refine ⟨fun e => tx (Or.inl e), fun e => ?_⟩
      rcases hI with ⟨e2, _⟩ | ⟨f0, f1, hb, hI⟩
      · exact absurd e2 e
      · refine xr _ (fr _ f0 f1 ⟨fun z => ?_, fun z => tx (Or.inr (by omega))⟩)
        unfold jM_nextByDay_J89
        refine ⟨fun z => by omega, fun _ => ⟨fun _ => ⟨by omega, ?_⟩, fun z => absurd rfl z⟩⟩
        rintro _ rfl
        refine hK f (Or.inr ⟨f0, by omega, hb, fun j j0 j1 hj => ?_⟩)
        by_cases e : j = x
        · refine Or.inr ?_
          subst e
          unfold LexP
          omega
        · exact hI j j0 (by omega) hj
    have ar : ∀ (Ψ : Int → Prop), a ≠ -5 → Ψ (A 4 a) → jM_of a 2 M Ψ := by
      intro Ψ ha5 hp
      rcases ha with e | ⟨a0, a1⟩
      · exact absurd e ha5
      · refine of_raw a0 (by omega) (by omega) (by omega) ?_
        rw [hr.first a a0 a1]
        exact hp
    have bq : a ≠ -5 → (bhd A a x ↔ A 4 a < A 4 x ∨ (A 4 a = A 4 x ∧ a < x)) := fun e => ⟨fun z => by rcases z with z | z; exact absurd z e; exact z, fun z => Or.inr z⟩
    unfold jM_nextByDay_L5
    rw [hr.n]
    refine ⟨fun q => by omega, fun _ => ⟨fun e => J56 (Or.inl e), fun e => xr _ (ar _ e ⟨fun z => J56 ((bq e).mpr (Or.inl z)), fun z => xr _ (ar _ e ⟨fun z2 => J60 (fun y => by have := (bq e).mp y; omega), fun z2 => ⟨fun z3 => J60 (fun y => by have := (bq e).mp y; omega), fun z3 => J56 ((bq e).mpr (Or.inr ⟨z2.symm, by omega⟩))⟩⟩)⟩)⟩⟩
def curO (o : Int → Int) (n t : Int) : Int := if t < n then o t else -5
theorem nextO (hr : RV A' (M 1)) (hd : dayR A') (e0 : A' 0 0 = A 0 0) (e4 : ∀ j, A' 4 j = A 4 j) {o : Int → Int} (hs : SortP A o (A 0 0)) {t : Int} (t0 : 0 ≤ t) (t1 : t < A 0 0) {Φ : Int → Prop} (k : Φ (curO o (A 0 0) (t + 1))) : jM_nextByDay (o t) M Φ := by
  have ot := hs.1 t t0 t1
  have lex : ∀ i j, LexP A' i j ↔ LexP A i j := fun i j => by unfold LexP; rw [e4, e4]
  have n5 : o t ≠ -5 := by omega
  have bq : ∀ j, bhd A' (o t) j ↔ LexP A (o t) j := fun j => ⟨fun z => by rcases z with z | z; exact absurd z n5; exact (lex _ _).mp z, fun z => Or.inr ((lex _ _).mpr z)⟩
  refine nextByDay_ok hr hd (Or.inr ⟨ot.1, by rw [e0]; exact ot.2⟩) (fun hno => ?_) (fun f f0 f1 hb hl => ?_)
  · have : ¬ t + 1 < A 0 0 := by
      intro z
      have ou := hs.1 (t + 1) (by omega) z
      exact hno (o (t + 1)) ou.1 (by rw [e0]; exact ou.2) ((bq _).mpr (hs.2.1 t (t + 1) t0 (by omega) z))
    unfold curO at k
    rw [if_neg this] at k
    exact k
  · rw [e0] at f1
    obtain ⟨u, u0, u1, rfl⟩ := hs.2.2 f f0 f1
    have tu := sort_irr hs t0 t1 u0 u1 ((bq _).mp hb)
    have ou := hs.1 (t + 1) (by omega) (by omega)
    have := hl (o (t + 1)) ou.1 (by rw [e0]; exact ou.2) ((bq _).mpr (hs.2.1 t (t + 1) t0 (by omega) (by omega)))
    unfold curO at k
    rw [if_pos (by omega)] at k
    have e : u = t + 1 := by
      rcases this with z | z
      · exact sort_inj hs u0 u1 (by omega) (by omega) z
      · have := sort_irr hs u0 u1 (by omega) (by omega) ((lex _ _).mp z)
        omega
    rw [e]
    exact k
theorem firstO (hr : RV A' (M 1)) (hd : dayR A') (e0 : A' 0 0 = A 0 0) (e4 : ∀ j, A' 4 j = A 4 j) {o : Int → Int} (hs : SortP A o (A 0 0)) {Φ : Int → Prop} (k : Φ (curO o (A 0 0) 0)) : jM_nextByDay (-5) M Φ := by
  have lex : ∀ i j, LexP A' i j ↔ LexP A i j := fun i j => by unfold LexP; rw [e4, e4]
  refine nextByDay_ok hr hd (Or.inl rfl) (fun hno => ?_) (fun f f0 f1 hb hl => ?_)
  · have : ¬ 0 < A 0 0 := fun z => hno 0 (by omega) (by rw [e0]; exact z) (Or.inl rfl)
    unfold curO at k
    rw [if_neg this] at k
    exact k
  · rw [e0] at f1
    obtain ⟨u, u0, u1, rfl⟩ := hs.2.2 f f0 f1
    have ou := hs.1 0 (by omega) (by omega)
    have := hl (o 0) ou.1 (by rw [e0]; exact ou.2) (Or.inl rfl)
    unfold curO at k
    rw [if_pos (by omega)] at k
    have e : u = 0 := by
      rcases this with z | z
      · exact sort_inj hs u0 u1 (by omega) (by omega) z
      · have := sort_irr hs u0 u1 (by omega) (by omega) ((lex _ _).mp z)
        omega
    rw [e]
    exact k
end AC
