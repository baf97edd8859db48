/-! what the class tells, of the class alone (printed by gen/g71.py) -/
theorem late_le {B : Int} {A : zA} (hv : Val B A) {g : Int} {D D' : Int → Int} (hD : LateP A g D) (hD' : LateP A g D') : ∀ (m : Nat) (j : Int), 0 ≤ j → j < A 0 0 → (200 - A 4 j).toNat ≤ m → D j ≤ D' j := by
  intro m
  induction m with
  | zero => intro j j0 j1 hm; have := hv.day j j0 j1; omega
  | succ m ih =>
    intro j j0 j1 hm
    rcases (hD'.1 j j0 j1).2.2 with e | ⟨i, i0, i1, hp, e⟩
    · have := (hD.1 j j0 j1).1; omega
    · have q := hD.2 j i j0 j1 i0 i1 hp
      have lt := push_lt hv j0 j1 i0 i1 hp
      have di := hv.day i i0 i1
      have := ih i i0 i1 (by omega)
      omega
noncomputable def latA (A : zA) : Int → Int := by classical exact if h : ∃ D, LateP A (gEnd A) D then Classical.choose h else fun _ => 0
theorem latA_eq {B : Int} {A : zA} (hv : Val B A) {D : Int → Int} (hD : LateP A (gEnd A) D) : LateP A (gEnd A) (latA A) ∧ ∀ j, 0 ≤ j → j < A 0 0 → D j = latA A j := by
  have hL : LateP A (gEnd A) (latA A) := by
    unfold latA
    rw [dif_pos ⟨D, hD⟩]
    exact Classical.choose_spec (p := fun D => LateP A (gEnd A) D) ⟨D, hD⟩
  refine ⟨hL, fun j j0 j1 => ?_⟩
  have a := late_le hv hD hL _ j j0 j1 (Nat.le_refl _)
  have b := late_le hv hL hD _ j j0 j1 (Nat.le_refl _)
  omega
theorem slip_le {B : Int} {A : zA} (hv : Val B A) {a d : Int} {D D' : Int → Int} (hD : SlipP A a d D) (hD' : SlipP A a d D') : ∀ (m : Nat) (j : Int), 0 ≤ j → j < A 0 0 → (A 4 j).toNat ≤ m → D j ≤ D' j := by
  intro m
  induction m with
  | zero =>
    intro j j0 j1 hm
    have dj := hv.day j j0 j1
    rcases (hD.1 j j0 j1).2.2 with e | ⟨i, i0, i1, hp, e⟩
    · have := (hD'.1 j j0 j1).1; omega
    · have lt := push_lt hv i0 i1 j0 j1 hp
      have di := hv.day i i0 i1
      omega
  | succ m ih =>
    intro j j0 j1 hm
    have dj := hv.day j j0 j1
    rcases (hD.1 j j0 j1).2.2 with e | ⟨i, i0, i1, hp, e⟩
    · have := (hD'.1 j j0 j1).1; omega
    · have lt := push_lt hv i0 i1 j0 j1 hp
      have di := hv.day i i0 i1
      have q := hD'.2 i j i0 i1 j0 j1 hp
      have := ih i i0 i1 (by omega)
      omega
theorem slip_uniq {B : Int} {A : zA} (hv : Val B A) {a d : Int} {D D' : Int → Int} (hD : SlipP A a d D) (hD' : SlipP A a d D') {j : Int} (j0 : 0 ≤ j) (j1 : j < A 0 0) : D j = D' j := by
  have a := slip_le hv hD hD' _ j j0 j1 (Nat.le_refl _)
  have b := slip_le hv hD' hD _ j j0 j1 (Nat.le_refl _)
  omega
theorem next_uniq {B : Int} {A : zA} (hv : Val B A) {s e e' : Int} (s0 : 0 ≤ s) (h : NextP A s e) (h' : NextP A s e') : e = e' := by
  have g := gEnd_rng hv
  have key : ∀ {e e' : Int}, NextP A s e → NextP A s e' → ¬ e < e' := by
    intro e e' h h' lt
    obtain ⟨h1, h2, h3, h4⟩ := h
    obtain ⟨g1, g2, g3, g4⟩ := h'
    rcases h4 with q | q
    · omega
    · have := plc_mono hv (show 0 ≤ e + 1 by omega) (show e + 1 ≤ e' by omega) (by omega)
      omega
  have a := key h h'
  have b := key h' h
  omega
theorem cut_uniq {B : Int} {A : zA} (hv : Val B A) {st st' : Int → Int} {n n' : Int} (h : CutP A st n) (h' : CutP A st' n') : n = n' ∧ ∀ t, 0 ≤ t → t ≤ n → st t = st' t := by
  have eq : ∀ m : Nat, (m : Int) ≤ n → (m : Int) ≤ n' → st m = st' m := by
    intro m
    induction m with
    | zero => intro _ _; exact h.2.1.trans h'.2.1.symm
    | succ m ih =>
      intro a b
      have e := ih (by omega) (by omega)
      have x := h.2.2.2 m (by omega) (by omega)
      have y := h'.2.2.2 m (by omega) (by omega)
      rw [← e] at y
      have s0 := cut_rng hv h (t := (m : Int)) (by omega) (by omega)
      have := next_uniq hv (by omega) x y
      rw [show ((m + 1 : Nat) : Int) = (m : Int) + 1 by omega]
      exact this
  have le : ∀ {st st' : Int → Int} {n n' : Int}, CutP A st n → CutP A st' n' → (∀ m : Nat, (m : Int) ≤ n → (m : Int) ≤ n' → st m = st' m) → ¬ n < n' := by
    intro st st' n n' h h' eq lt
    obtain ⟨m, rfl⟩ := Int.eq_ofNat_of_zero_le h.1
    have e := eq m (Int.le_refl _) (by omega)
    have x := h'.2.2.2 m (by omega) lt
    rw [← e, h.2.2.1] at x
    have := x.1
    have := x.2.1
    omega
  have a := le h h' eq
  have b := le h' h (fun m p q => (eq m q p).symm)
  have en : n = n' := by omega
  refine ⟨en, fun t t0 t1 => ?_⟩
  obtain ⟨m, rfl⟩ := Int.eq_ofNat_of_zero_le t0
  exact eq m t1 (by omega)
noncomputable def cutA (A : zA) : (Int → Int) × Int := by classical exact if h : ∃ p : (Int → Int) × Int, CutP A p.1 p.2 then Classical.choose h else (fun _ => 0, 0)
theorem cutA_eq {B : Int} {A : zA} (hv : Val B A) {st : Int → Int} {n : Int} (h : CutP A st n) : CutP A (cutA A).1 (cutA A).2 ∧ n = (cutA A).2 ∧ ∀ t, 0 ≤ t → t ≤ n → st t = (cutA A).1 t := by
  have hL : CutP A (cutA A).1 (cutA A).2 := by
    unfold cutA
    rw [dif_pos (show ∃ p : (Int → Int) × Int, CutP A p.1 p.2 from ⟨(st, n), h⟩)]
    exact Classical.choose_spec (p := fun p : (Int → Int) × Int => CutP A p.1 p.2) ⟨(st, n), h⟩
  exact ⟨hL, cut_uniq hv h hL⟩
section AC
variable {A A' S : zA} {H : Int → zA} {h fl L B : Int} {T : Int → Int} {M M2 : zM} {b : Nat} {Φ : Int → zM → Prop}
theorem count0_one (hV : VS B A H h fl S L T) (hX : IX A H h fl S L T M) (k : ∀ M', IX A H h fl S L T M' → Φ (A 0 0) M') : jB_count 0 M Φ := by
  have hv := hV.1
  unfold jB_count
  refine ⟨fun _ => ?_, fun z => absurd rfl z⟩
  show Φ (M 0 0) M
  rw [show M 0 0 = A 0 0 from hX.1.n]
  exact k M hX
theorem count1_one (hV : VS B A H h fl S L T) (hX : IX A H h fl S L T M) (k : ∀ M', IX A H h fl S L T M' → Φ (A 6 0) M') : jB_count 1 M Φ := by
  have hv := hV.1
  unfold jB_count
  refine ⟨fun z => absurd z (by decide), fun _ => ?_⟩
  refine ⟨fun _ => ?_, fun z => absurd rfl z⟩
  show Φ (M 0 6) M
  rw [show M 0 6 = A 6 0 from hX.1.a]
  exact k M hX
theorem count3_one (hV : VS B A H h fl S L T) (hX : IX A H h fl S L T M) (k : ∀ M', IX A H h fl S L T M' → Φ (undrA A) M') : jB_count 3 M Φ := by
  have hv := hV.1
  unfold jB_count
  refine ⟨fun z => absurd z (by decide), fun _ => ?_⟩
  refine ⟨fun z => absurd z (by decide), fun _ => ?_⟩
  refine ⟨fun z => absurd z (by decide), fun _ => ?_⟩
  refine ⟨fun _ => ?_, fun z => absurd rfl z⟩
  unfold jB_undrawnArrows
  refine draw_ok hX.1 hv (Or.inl rfl) (fun M3 hs3 hd3 => ?_)
  have hX3 := hX.scr (M2 := M3) (fun a ha => hs3 a (by omega) (by omega) (by omega))
  rw [hd3.2.2]
  exact k M3 hX3
theorem count4_one (hV : VS B A H h fl S L T) (hX : IX A H h fl S L T M) (k : ∀ M', IX A H h fl S L T M' → Φ (lateN A) M') : jB_count 4 M Φ := by
  have hv := hV.1
  unfold jB_count
  refine ⟨fun z => absurd z (by decide), fun _ => ?_⟩
  refine ⟨fun z => absurd z (by decide), fun _ => ?_⟩
  refine ⟨fun z => absurd z (by decide), fun _ => ?_⟩
  refine ⟨fun z => absurd z (by decide), fun _ => ?_⟩
  refine ⟨fun _ => ?_, fun z => absurd rfl z⟩
  exact lateArrows_ok hX.1 hv (k M hX)
theorem count5_one (hV : VS B A H h fl S L T) (hX : IX A H h fl S L T M) (k : ∀ M', IX A H h fl S L T M' → Φ (ptsA A) M') : jB_count 5 M Φ := by
  have hv := hV.1
  unfold jB_count
  refine ⟨fun z => absurd z (by decide), fun _ => ?_⟩
  refine ⟨fun z => absurd z (by decide), fun _ => ?_⟩
  refine ⟨fun z => absurd z (by decide), fun _ => ?_⟩
  refine ⟨fun z => absurd z (by decide), fun _ => ?_⟩
  refine ⟨fun z => absurd z (by decide), fun _ => ?_⟩
  refine ⟨fun _ => ?_, fun z => absurd rfl z⟩
  unfold jB_crossingPoints
  refine draw_ok hX.1 hv (Or.inl rfl) (fun M3 hs3 hd3 => ?_)
  have hX3 := hX.scr (M2 := M3) (fun a ha => hs3 a (by omega) (by omega) (by omega))
  exact pointsInAll_ok hX3.1 hv hd3 (k M3 hX3)
theorem count6_one (hV : VS B A H h fl S L T) (hX : IX A H h fl S L T M) (k : ∀ M', IX A H h fl S L T M' → Φ (gEnd A) M') : jB_count 6 M Φ := by
  have hv := hV.1
  unfold jB_count
  refine ⟨fun z => absurd z (by decide), fun _ => ?_⟩
  refine ⟨fun z => absurd z (by decide), fun _ => ?_⟩
  refine ⟨fun z => absurd z (by decide), fun _ => ?_⟩
  refine ⟨fun z => absurd z (by decide), fun _ => ?_⟩
  refine ⟨fun z => absurd z (by decide), fun _ => ?_⟩
  refine ⟨fun z => absurd z (by decide), fun _ => ?_⟩
  refine ⟨fun _ => ?_, fun z => absurd rfl z⟩
  exact greatestEnd_ok hX.1 hv (k M hX)
theorem count7_one (hV : VS B A H h fl S L T) (hX : IX A H h fl S L T M) (k : ∀ M', IX A H h fl S L T M' → CutP A (cutA A).1 (cutA A).2 → Φ (cutA A).2 M') : jB_count 7 M Φ := by
  have hv := hV.1
  unfold jB_count
  refine ⟨fun z => absurd z (by decide), fun _ => ?_⟩
  refine ⟨fun z => absurd z (by decide), fun _ => ?_⟩
  refine ⟨fun z => absurd z (by decide), fun _ => ?_⟩
  refine ⟨fun z => absurd z (by decide), fun _ => ?_⟩
  refine ⟨fun z => absurd z (by decide), fun _ => ?_⟩
  refine ⟨fun z => absurd z (by decide), fun _ => ?_⟩
  refine ⟨fun z => absurd z (by decide), fun _ => ?_⟩
  refine ⟨fun _ => ?_, fun z => absurd rfl z⟩
  unfold jB_stripsInAll
  refine cut_ok hX.1 hv (Or.inl rfl) (fun M1 hs hC => ?_)
  have e := cutA_eq hv hC
  rw [e.2.1]
  exact k M1 (smC.scr hX hs) e.1
theorem count8_one (hV : VS B A H h fl S L T) (hX : IX A H h fl S L T M) (k : ∀ M', IX A H h fl S L T M' → Φ (plc A (gEnd A)) M') : jB_count 8 M Φ := by
  have hv := hV.1
  unfold jB_count
  refine ⟨fun z => absurd z (by decide), fun _ => ?_⟩
  refine ⟨fun z => absurd z (by decide), fun _ => ?_⟩
  refine ⟨fun z => absurd z (by decide), fun _ => ?_⟩
  refine ⟨fun z => absurd z (by decide), fun _ => ?_⟩
  refine ⟨fun z => absurd z (by decide), fun _ => ?_⟩
  refine ⟨fun z => absurd z (by decide), fun _ => ?_⟩
  refine ⟨fun z => absurd z (by decide), fun _ => ?_⟩
  refine ⟨fun z => absurd z (by decide), fun _ => ?_⟩
  refine ⟨fun _ => ?_, fun z => absurd rfl z⟩
  have g := gEnd_rng hv
  exact greatestEnd_ok hX.1 hv (place_ok hX.1 hv g.1 g.2 (k M hX))
theorem count9_one (hV : VS B A H h fl S L T) (hX : IX A H h fl S L T M) (k : ∀ M', IX A H h fl S L T M' → LateP A (gEnd A) (latA A) → Φ (critN A (latA A)) M') : jB_count 9 M Φ := by
  have hv := hV.1
  unfold jB_count
  refine ⟨fun z => absurd z (by decide), fun _ => ?_⟩
  refine ⟨fun z => absurd z (by decide), fun _ => ?_⟩
  refine ⟨fun z => absurd z (by decide), fun _ => ?_⟩
  refine ⟨fun z => absurd z (by decide), fun _ => ?_⟩
  refine ⟨fun z => absurd z (by decide), fun _ => ?_⟩
  refine ⟨fun z => absurd z (by decide), fun _ => ?_⟩
  refine ⟨fun z => absurd z (by decide), fun _ => ?_⟩
  refine ⟨fun z => absurd z (by decide), fun _ => ?_⟩
  refine ⟨fun z => absurd z (by decide), fun _ => ?_⟩
  refine ⟨fun _ => ?_, fun z => absurd rfl z⟩
  refine critical_ok hX.1 hv (fun D hD M1 hs => ?_)
  have e := latA_eq hv hD
  rw [show critN A D = critN A (latA A) from cntA_congr (fun j j0 j1 => by rw [e.2 j j0 j1])]
  exact k M1 (hX.scr (fun a ha => hs a (by omega))) e.1
theorem count10_one (hV : VS B A H h fl S L T) (hX : IX A H h fl S L T M) (k : ∀ M', IX A H h fl S L T M' → Φ (A 1 0) M') : jB_count 10 M Φ := by
  have hv := hV.1
  unfold jB_count
  refine ⟨fun z => absurd z (by decide), fun _ => ?_⟩
  refine ⟨fun z => absurd z (by decide), fun _ => ?_⟩
  refine ⟨fun z => absurd z (by decide), fun _ => ?_⟩
  refine ⟨fun z => absurd z (by decide), fun _ => ?_⟩
  refine ⟨fun z => absurd z (by decide), fun _ => ?_⟩
  refine ⟨fun z => absurd z (by decide), fun _ => ?_⟩
  refine ⟨fun z => absurd z (by decide), fun _ => ?_⟩
  refine ⟨fun z => absurd z (by decide), fun _ => ?_⟩
  refine ⟨fun z => absurd z (by decide), fun _ => ?_⟩
  refine ⟨fun z => absurd z (by decide), fun _ => ?_⟩
  refine ⟨fun _ => ?_, fun z => absurd rfl z⟩
  show Φ (M 0 1) M
  rw [show M 0 1 = A 1 0 from hX.1.ever]
  exact k M hX
theorem count11_one (hV : VS B A H h fl S L T) (hX : IX A H h fl S L T M) (k : ∀ M', IX A H h fl S L T M' → Φ (A 7 0) M') : jB_count 11 M Φ := by
  have hv := hV.1
  unfold jB_count
  refine ⟨fun z => absurd z (by decide), fun _ => ?_⟩
  refine ⟨fun z => absurd z (by decide), fun _ => ?_⟩
  refine ⟨fun z => absurd z (by decide), fun _ => ?_⟩
  refine ⟨fun z => absurd z (by decide), fun _ => ?_⟩
  refine ⟨fun z => absurd z (by decide), fun _ => ?_⟩
  refine ⟨fun z => absurd z (by decide), fun _ => ?_⟩
  refine ⟨fun z => absurd z (by decide), fun _ => ?_⟩
  refine ⟨fun z => absurd z (by decide), fun _ => ?_⟩
  refine ⟨fun z => absurd z (by decide), fun _ => ?_⟩
  refine ⟨fun z => absurd z (by decide), fun _ => ?_⟩
  refine ⟨fun z => absurd z (by decide), fun _ => ?_⟩
  refine ⟨fun _ => ?_, fun z => absurd rfl z⟩
  show Φ (M 0 7) M
  rw [show M 0 7 = A 7 0 from hX.1.aever]
  exact k M hX
theorem count12_one (hV : VS B A H h fl S L T) (hX : IX A H h fl S L T M) (k : ∀ M', IX A H h fl S L T M' → Φ (A 13 0) M') : jB_count 12 M Φ := by
  have hv := hV.1
  unfold jB_count
  refine ⟨fun z => absurd z (by decide), fun _ => ?_⟩
  refine ⟨fun z => absurd z (by decide), fun _ => ?_⟩
  refine ⟨fun z => absurd z (by decide), fun _ => ?_⟩
  refine ⟨fun z => absurd z (by decide), fun _ => ?_⟩
  refine ⟨fun z => absurd z (by decide), fun _ => ?_⟩
  refine ⟨fun z => absurd z (by decide), fun _ => ?_⟩
  refine ⟨fun z => absurd z (by decide), fun _ => ?_⟩
  refine ⟨fun z => absurd z (by decide), fun _ => ?_⟩
  refine ⟨fun z => absurd z (by decide), fun _ => ?_⟩
  refine ⟨fun z => absurd z (by decide), fun _ => ?_⟩
  refine ⟨fun z => absurd z (by decide), fun _ => ?_⟩
  refine ⟨fun z => absurd z (by decide), fun _ => ?_⟩
  refine ⟨fun _ => ?_, fun z => absurd rfl z⟩
  show Φ (M 0 13) M
  rw [show M 0 13 = A 13 0 from hX.1.slip]
  exact k M hX
theorem count15_one (hV : VS B A H h fl S L T) (hX : IX A H h fl S L T M) (k : ∀ M', IX A H h fl S L T M' → Φ (A 12 0) M') : jB_count 15 M Φ := by
  have hv := hV.1
  unfold jB_count
  refine ⟨fun z => absurd z (by decide), fun _ => ?_⟩
  refine ⟨fun z => absurd z (by decide), fun _ => ?_⟩
  refine ⟨fun z => absurd z (by decide), fun _ => ?_⟩
  refine ⟨fun z => absurd z (by decide), fun _ => ?_⟩
  refine ⟨fun z => absurd z (by decide), fun _ => ?_⟩
  refine ⟨fun z => absurd z (by decide), fun _ => ?_⟩
  refine ⟨fun z => absurd z (by decide), fun _ => ?_⟩
  refine ⟨fun z => absurd z (by decide), fun _ => ?_⟩
  refine ⟨fun z => absurd z (by decide), fun _ => ?_⟩
  refine ⟨fun z => absurd z (by decide), fun _ => ?_⟩
  refine ⟨fun z => absurd z (by decide), fun _ => ?_⟩
  refine ⟨fun z => absurd z (by decide), fun _ => ?_⟩
  refine ⟨fun z => absurd z (by decide), fun _ => ?_⟩
  refine ⟨fun z => absurd z (by decide), fun _ => ?_⟩
  refine ⟨fun z => absurd z (by decide), fun _ => ?_⟩
  refine ⟨fun _ => ?_, fun z => absurd rfl z⟩
  show Φ (M 9 0) M
  rw [show M 9 0 = A 12 0 from hX.1.set 0 (by decide) (by decide)]
  exact k M hX
theorem count16_one (hV : VS B A H h fl S L T) (hX : IX A H h fl S L T M) (k : ∀ M', IX A H h fl S L T M' → Φ (A 12 1) M') : jB_count 16 M Φ := by
  have hv := hV.1
  unfold jB_count
  refine ⟨fun z => absurd z (by decide), fun _ => ?_⟩
  refine ⟨fun z => absurd z (by decide), fun _ => ?_⟩
  refine ⟨fun z => absurd z (by decide), fun _ => ?_⟩
  refine ⟨fun z => absurd z (by decide), fun _ => ?_⟩
  refine ⟨fun z => absurd z (by decide), fun _ => ?_⟩
  refine ⟨fun z => absurd z (by decide), fun _ => ?_⟩
  refine ⟨fun z => absurd z (by decide), fun _ => ?_⟩
  refine ⟨fun z => absurd z (by decide), fun _ => ?_⟩
  refine ⟨fun z => absurd z (by decide), fun _ => ?_⟩
  refine ⟨fun z => absurd z (by decide), fun _ => ?_⟩
  refine ⟨fun z => absurd z (by decide), fun _ => ?_⟩
  refine ⟨fun z => absurd z (by decide), fun _ => ?_⟩
  refine ⟨fun z => absurd z (by decide), fun _ => ?_⟩
  refine ⟨fun z => absurd z (by decide), fun _ => ?_⟩
  refine ⟨fun z => absurd z (by decide), fun _ => ?_⟩
  refine ⟨fun z => absurd z (by decide), fun _ => ?_⟩
  refine ⟨fun _ => ?_, fun z => absurd rfl z⟩
  show Φ (M 9 1) M
  rw [show M 9 1 = A 12 1 from hX.1.set 1 (by decide) (by decide)]
  exact k M hX
theorem barOf0_one (hV : VS B A H h fl S L T) (hX : IX A H h fl S L T M) {s : Int} (s0 : 0 ≤ s) (s1 : s < A 0 0) (k : ∀ M', IX A H h fl S L T M' → Φ (A 3 s) M') : jB_barOf (A 2 s) 0 M Φ := by
  have hv := hV.1
  have hn := hv.n
  have ds := hv.day s s0 s1
  unfold jB_barOf
  refine slotOf_ok hX.1 hv (fun s' s0' s1' es => ⟨fun _ => ?_, fun z => absurd s0' z⟩) (fun hno => absurd rfl (hno s s0 s1))
  rw [hv.uniq s0' s1' s0 s1 es]
  refine ⟨fun _ => ?_, fun z => absurd rfl z⟩
  refine ⟨s0, by omega, ?_⟩
  rw [show M 2 s = A 3 s from hX.1.lane s s0 s1]
  exact k M hX
theorem barOf1_one (hV : VS B A H h fl S L T) (hX : IX A H h fl S L T M) {s : Int} (s0 : 0 ≤ s) (s1 : s < A 0 0) (k : ∀ M', IX A H h fl S L T M' → Φ (A 4 s) M') : jB_barOf (A 2 s) 1 M Φ := by
  have hv := hV.1
  have hn := hv.n
  have ds := hv.day s s0 s1
  unfold jB_barOf
  refine slotOf_ok hX.1 hv (fun s' s0' s1' es => ⟨fun _ => ?_, fun z => absurd s0' z⟩) (fun hno => absurd rfl (hno s s0 s1))
  rw [hv.uniq s0' s1' s0 s1 es]
  refine ⟨fun z => absurd z (by decide), fun _ => ?_⟩
  refine ⟨fun _ => ?_, fun z => absurd rfl z⟩
  refine ⟨s0, by omega, ?_⟩
  rw [show M 3 s = A 4 s from hX.1.first s s0 s1]
  exact k M hX
theorem barOf2_one (hV : VS B A H h fl S L T) (hX : IX A H h fl S L T M) {s : Int} (s0 : 0 ≤ s) (s1 : s < A 0 0) (k : ∀ M', IX A H h fl S L T M' → Φ (A 5 s) M') : jB_barOf (A 2 s) 2 M Φ := by
  have hv := hV.1
  have hn := hv.n
  have ds := hv.day s s0 s1
  unfold jB_barOf
  refine slotOf_ok hX.1 hv (fun s' s0' s1' es => ⟨fun _ => ?_, fun z => absurd s0' z⟩) (fun hno => absurd rfl (hno s s0 s1))
  rw [hv.uniq s0' s1' s0 s1 es]
  refine ⟨fun z => absurd z (by decide), fun _ => ?_⟩
  refine ⟨fun z => absurd z (by decide), fun _ => ?_⟩
  refine ⟨fun _ => ?_, fun z => absurd rfl z⟩
  refine ⟨s0, by omega, ?_⟩
  rw [show M 4 s = A 5 s from hX.1.days s s0 s1]
  exact k M hX
theorem barOf3_one (hV : VS B A H h fl S L T) (hX : IX A H h fl S L T M) {s : Int} (s0 : 0 ≤ s) (s1 : s < A 0 0) (k : ∀ M', IX A H h fl S L T M' → Φ (endA A s) M') : jB_barOf (A 2 s) 3 M Φ := by
  have hv := hV.1
  have hn := hv.n
  have ds := hv.day s s0 s1
  unfold jB_barOf
  refine slotOf_ok hX.1 hv (fun s' s0' s1' es => ⟨fun _ => ?_, fun z => absurd s0' z⟩) (fun hno => absurd rfl (hno s s0 s1))
  rw [hv.uniq s0' s1' s0 s1 es]
  refine ⟨fun z => absurd z (by decide), fun _ => ?_⟩
  refine ⟨fun z => absurd z (by decide), fun _ => ?_⟩
  refine ⟨fun z => absurd z (by decide), fun _ => ?_⟩
  refine ⟨fun _ => ?_, fun z => absurd rfl z⟩
  exact endOf_ok hX.1 hv s0 s1 (k M hX)
theorem barOf6_one (hV : VS B A H h fl S L T) (hX : IX A H h fl S L T M) {s : Int} (s0 : 0 ≤ s) (s1 : s < A 0 0) (k : ∀ M', IX A H h fl S L T M' → LateP A (gEnd A) (latA A) → Φ (latA A s - A 4 s) M') : jB_barOf (A 2 s) 6 M Φ := by
  have hv := hV.1
  have hn := hv.n
  have ds := hv.day s s0 s1
  unfold jB_barOf
  refine slotOf_ok hX.1 hv (fun s' s0' s1' es => ⟨fun _ => ?_, fun z => absurd s0' z⟩) (fun hno => absurd rfl (hno s s0 s1))
  rw [hv.uniq s0' s1' s0 s1 es]
  refine ⟨fun z => absurd z (by decide), fun _ => ?_⟩
  refine ⟨fun z => absurd z (by decide), fun _ => ?_⟩
  refine ⟨fun z => absurd z (by decide), fun _ => ?_⟩
  refine ⟨fun z => absurd z (by decide), fun _ => ?_⟩
  refine ⟨fun z => absurd z (by decide), fun _ => ?_⟩
  refine ⟨fun z => absurd z (by decide), fun _ => ?_⟩
  refine ⟨fun _ => ?_, fun z => absurd rfl z⟩
  refine latestOf_ok hX.1 hv s0 s1 (fun D hD M1 hs => ⟨s0, by omega, ?_⟩)
  have e := latA_eq hv hD
  have g := gEnd_rng hv
  have hX1 : IX A H h fl S L T M1 := hX.scr (fun a ha => hs a (by omega))
  have l := e.1.1 s s0 s1
  rw [show M1 3 s = A 4 s from hX1.1.first s s0 s1, e.2 s s0 s1]
  exact ⟨by omega, k M1 hX1 e.1⟩
theorem barOf0_any (hV : VS B A H h fl S L T) (hX : IX A H h fl S L T M) (p : Int) (kf : (∀ s, 0 ≤ s → s < A 0 0 → A 2 s ≠ p) → Φ (-1) M) (k : ∀ s, 0 ≤ s → s < A 0 0 → A 2 s = p → Φ (A 3 s) M) : jB_barOf p 0 M Φ := by
  have hv := hV.1
  have hn := hv.n
  unfold jB_barOf
  refine slotOf_ok hX.1 hv (fun s s0 s1 es => ⟨fun _ => ?_, fun z => absurd s0 z⟩) (fun hno => ⟨fun z => absurd z (by decide), fun _ => kf hno⟩)
  refine ⟨fun _ => ?_, fun z => absurd rfl z⟩
  refine ⟨s0, by omega, ?_⟩
  rw [show M 2 s = A 3 s from hX.1.lane s s0 s1]
  exact k s s0 s1 es
theorem arrowOf_head (hV : VS B A H h fl S L T) (hX : IX A H h fl S L T M) {w s : Int} (s0 : 0 ≤ s) (s1 : s < A 6 0) (k : ∀ M3 s2, IX A H h fl S L T M3 → DrawP A M3 → (s2 = 0 ↔ bendA A s = -5) → jB_arrowOf_J45 (A 8 s) w Φ s s2 M3) : jB_arrowOf (A 8 s) w M Φ := by
  have hv := hV.1
  have ha := hv.a
  unfold jB_arrowOf
  refine arrowSlotOf_ok hX.1 hv (fun s' s0' s1' es => ⟨fun _ => ?_, fun z => absurd s0' z⟩) (fun hno => absurd rfl (hno s s0 s1))
  rw [anum_uniq hv s0' s1' s0 s1 es]
  refine draw_ok hX.1 hv (Or.inl rfl) (fun M3 hs3 hd3 => ?_)
  have hX3 := hX.scr (M2 := M3) (fun a ha => hs3 a (by omega) (by omega) (by omega))
  rw [(hd3.2.1 s s0 s1).1]
  exact ⟨s0, by omega, fun e => k M3 0 hX3 hd3 ⟨fun _ => e, fun _ => rfl⟩, fun e => k M3 1 hX3 hd3 ⟨fun z => absurd z (by decide), fun z => absurd z e⟩⟩
theorem arrowOf0_one (hV : VS B A H h fl S L T) (hX : IX A H h fl S L T M) {s : Int} (s0 : 0 ≤ s) (s1 : s < A 6 0) (k : ∀ M', IX A H h fl S L T M' → Φ (A 2 (A 9 s)) M') : jB_arrowOf (A 8 s) 0 M Φ := by
  have hv := hV.1
  have hn := hv.n
  have ha := hv.a
  have fs := hv.from s s0 s1
  have ts := hv.to s s0 s1
  refine arrowOf_head hV hX s0 s1 (fun M3 s2 hX3 hd3 h2 => ?_)
  have bd := hd3.2.1 s s0 s1
  unfold jB_arrowOf_J45
  rw [show M3 6 s = A 9 s from hX3.1.from s s0 s1, show M3 7 s = A 10 s from hX3.1.to s s0 s1]
  refine ⟨s0, by omega, endOf_ok hX3.1 hv fs.1 fs.2 ⟨s0, by omega, ts.1, by omega, ?_⟩⟩
  rintro _ rfl
  refine ⟨fun _ => ?_, fun z => absurd rfl z⟩
  refine ⟨s0, by omega, fs.1, by omega, ?_⟩
  rw [show M3 1 (A 9 s) = A 2 (A 9 s) from hX3.1.num _ fs.1 fs.2]
  exact k M3 hX3
theorem arrowOf1_one (hV : VS B A H h fl S L T) (hX : IX A H h fl S L T M) {s : Int} (s0 : 0 ≤ s) (s1 : s < A 6 0) (k : ∀ M', IX A H h fl S L T M' → Φ (A 2 (A 10 s)) M') : jB_arrowOf (A 8 s) 1 M Φ := by
  have hv := hV.1
  have hn := hv.n
  have ha := hv.a
  have fs := hv.from s s0 s1
  have ts := hv.to s s0 s1
  refine arrowOf_head hV hX s0 s1 (fun M3 s2 hX3 hd3 h2 => ?_)
  have bd := hd3.2.1 s s0 s1
  unfold jB_arrowOf_J45
  rw [show M3 6 s = A 9 s from hX3.1.from s s0 s1, show M3 7 s = A 10 s from hX3.1.to s s0 s1]
  refine ⟨s0, by omega, endOf_ok hX3.1 hv fs.1 fs.2 ⟨s0, by omega, ts.1, by omega, ?_⟩⟩
  rintro _ rfl
  refine ⟨fun z => absurd z (by decide), fun _ => ?_⟩
  refine ⟨fun _ => ?_, fun z => absurd rfl z⟩
  refine ⟨s0, by omega, ts.1, by omega, ?_⟩
  rw [show M3 1 (A 10 s) = A 2 (A 10 s) from hX3.1.num _ ts.1 ts.2]
  exact k M3 hX3
theorem arrowOf2_one (hV : VS B A H h fl S L T) (hX : IX A H h fl S L T M) {s : Int} (s0 : 0 ≤ s) (s1 : s < A 6 0) (k : ∀ M', IX A H h fl S L T M' → BendP A s (bendA A s) → Φ (bendA A s) M') : jB_arrowOf (A 8 s) 2 M Φ := by
  have hv := hV.1
  have hn := hv.n
  have ha := hv.a
  have fs := hv.from s s0 s1
  have ts := hv.to s s0 s1
  refine arrowOf_head hV hX s0 s1 (fun M3 s2 hX3 hd3 h2 => ?_)
  have bd := hd3.2.1 s s0 s1
  unfold jB_arrowOf_J45
  rw [show M3 6 s = A 9 s from hX3.1.from s s0 s1, show M3 7 s = A 10 s from hX3.1.to s s0 s1]
  refine ⟨s0, by omega, endOf_ok hX3.1 hv fs.1 fs.2 ⟨s0, by omega, ts.1, by omega, ?_⟩⟩
  rintro _ rfl
  refine ⟨fun z => absurd z (by decide), fun _ => ?_⟩
  refine ⟨fun z => absurd z (by decide), fun _ => ?_⟩
  refine ⟨fun _ => ?_, fun z => absurd rfl z⟩
  refine ⟨s0, by omega, ?_⟩
  rw [bd.1]
  exact k M3 hX3 bd.2
theorem arrowOf3_one (hV : VS B A H h fl S L T) (hX : IX A H h fl S L T M) {s : Int} (s0 : 0 ≤ s) (s1 : s < A 6 0) (k : ∀ M', IX A H h fl S L T M' → Φ (lateA A s) M') : jB_arrowOf (A 8 s) 3 M Φ := by
  have hv := hV.1
  have hn := hv.n
  have ha := hv.a
  have fs := hv.from s s0 s1
  have ts := hv.to s s0 s1
  refine arrowOf_head hV hX s0 s1 (fun M3 s2 hX3 hd3 h2 => ?_)
  have bd := hd3.2.1 s s0 s1
  unfold jB_arrowOf_J45
  rw [show M3 6 s = A 9 s from hX3.1.from s s0 s1, show M3 7 s = A 10 s from hX3.1.to s s0 s1]
  refine ⟨s0, by omega, endOf_ok hX3.1 hv fs.1 fs.2 ⟨s0, by omega, ts.1, by omega, ?_⟩⟩
  rintro _ rfl
  refine ⟨fun z => absurd z (by decide), fun _ => ?_⟩
  refine ⟨fun z => absurd z (by decide), fun _ => ?_⟩
  refine ⟨fun z => absurd z (by decide), fun _ => ?_⟩
  refine ⟨fun _ => ?_, fun z => absurd rfl z⟩
  exact lateBy_ok hX3.1 hv s0 s1 (k M3 hX3)
theorem arrowOf4_one (hV : VS B A H h fl S L T) (hX : IX A H h fl S L T M) {s : Int} (s0 : 0 ≤ s) (s1 : s < A 6 0) (k : ∀ M', IX A H h fl S L T M' → Φ (freeN A s) M') : jB_arrowOf (A 8 s) 4 M Φ := by
  have hv := hV.1
  have hn := hv.n
  have ha := hv.a
  have fs := hv.from s s0 s1
  have ts := hv.to s s0 s1
  refine arrowOf_head hV hX s0 s1 (fun M3 s2 hX3 hd3 h2 => ?_)
  have bd := hd3.2.1 s s0 s1
  unfold jB_arrowOf_J45
  rw [show M3 6 s = A 9 s from hX3.1.from s s0 s1, show M3 7 s = A 10 s from hX3.1.to s s0 s1]
  refine ⟨s0, by omega, endOf_ok hX3.1 hv fs.1 fs.2 ⟨s0, by omega, ts.1, by omega, ?_⟩⟩
  rintro _ rfl
  refine ⟨fun z => absurd z (by decide), fun _ => ?_⟩
  refine ⟨fun z => absurd z (by decide), fun _ => ?_⟩
  refine ⟨fun z => absurd z (by decide), fun _ => ?_⟩
  refine ⟨fun z => absurd z (by decide), fun _ => ?_⟩
  refine ⟨fun _ => ?_, fun z => absurd rfl z⟩
  exact freeBends_ok hX3.1 hv hd3.1 s0 s1 (k M3 hX3)
theorem arrowOf6_one (hV : VS B A H h fl S L T) (hX : IX A H h fl S L T M) {s : Int} (s0 : 0 ≤ s) (s1 : s < A 6 0) (k : ∀ M', IX A H h fl S L T M' → Φ (ptsOf A s) M') : jB_arrowOf (A 8 s) 6 M Φ := by
  have hv := hV.1
  have hn := hv.n
  have ha := hv.a
  have fs := hv.from s s0 s1
  have ts := hv.to s s0 s1
  refine arrowOf_head hV hX s0 s1 (fun M3 s2 hX3 hd3 h2 => ?_)
  have bd := hd3.2.1 s s0 s1
  unfold jB_arrowOf_J45
  rw [show M3 6 s = A 9 s from hX3.1.from s s0 s1, show M3 7 s = A 10 s from hX3.1.to s s0 s1]
  refine ⟨s0, by omega, endOf_ok hX3.1 hv fs.1 fs.2 ⟨s0, by omega, ts.1, by omega, ?_⟩⟩
  rintro _ rfl
  refine ⟨fun z => absurd z (by decide), fun _ => ?_⟩
  refine ⟨fun z => absurd z (by decide), fun _ => ?_⟩
  refine ⟨fun z => absurd z (by decide), fun _ => ?_⟩
  refine ⟨fun z => absurd z (by decide), fun _ => ?_⟩
  refine ⟨fun z => absurd z (by decide), fun _ => ?_⟩
  refine ⟨fun z => absurd z (by decide), fun _ => ?_⟩
  refine ⟨fun _ => ?_, fun z => absurd rfl z⟩
  exact pointsOf_ok hX3.1 hv hd3 s0 s1 (k M3 hX3)
theorem arrowOf5_one (hV : VS B A H h fl S L T) (hX : IX A H h fl S L T M) {s : Int} (s0 : 0 ≤ s) (s1 : s < A 6 0) (k : ∀ r M', IX A H h fl S L T M' → (r < 0 ↔ bendA A s = -5) → Φ r M') : jB_arrowOf (A 8 s) 5 M Φ := by
  have hv := hV.1
  have hn := hv.n
  have ha := hv.a
  have fs := hv.from s s0 s1
  have ts := hv.to s s0 s1
  refine arrowOf_head hV hX s0 s1 (fun M3 s2 hX3 hd3 h2 => ?_)
  have bd := hd3.2.1 s s0 s1
  unfold jB_arrowOf_J45
  rw [show M3 6 s = A 9 s from hX3.1.from s s0 s1, show M3 7 s = A 10 s from hX3.1.to s s0 s1]
  refine ⟨s0, by omega, endOf_ok hX3.1 hv fs.1 fs.2 ⟨s0, by omega, ts.1, by omega, ?_⟩⟩
  rintro _ rfl
  refine ⟨fun z => absurd z (by decide), fun _ => ?_⟩
  refine ⟨fun z => absurd z (by decide), fun _ => ?_⟩
  refine ⟨fun z => absurd z (by decide), fun _ => ?_⟩
  refine ⟨fun z => absurd z (by decide), fun _ => ?_⟩
  refine ⟨fun z => absurd z (by decide), fun _ => ?_⟩
  refine ⟨fun _ => ?_, fun z => absurd rfl z⟩
  have df := hv.day _ fs.1 fs.2
  have dt := hv.day _ ts.1 ts.2
  rw [show M3 3 (A 10 s) = A 4 (A 10 s) from hX3.1.first _ ts.1 ts.2]
  refine ⟨fun e => k _ M3 hX3 ⟨fun _ => h2.mp e, fun _ => by decide⟩, fun e => ?_⟩
  have hb : ¬ bendA A s = -5 := fun z => e (h2.mpr z)
  have fwd : endA A (A 9 s) ≤ A 4 (A 10 s) := by
    rcases bd.2 with ⟨z, _⟩ | ⟨z, _⟩
    · exact absurd z hb
    · have q2 : endA A (A 9 s) ≤ bendA A s ∧ bendA A s ≤ A 4 (A 10 s) := z.1
      omega
  have fwd : A 4 (A 9 s) + A 5 (A 9 s) ≤ A 4 (A 10 s) := fwd
  have en : 0 ≤ A 4 (A 9 s) + A 5 (A 9 s) := by omega
  refine widthBetween_ok hX3.1 hv en fwd (by omega) (k _ M3 hX3 ⟨fun z => ?_, fun z => absurd z hb⟩)
  have := plc_mono hv en fwd (by omega)
  omega
theorem arrowOf7_one (hV : VS B A H h fl S L T) (hX : IX A H h fl S L T M) {s : Int} (s0 : 0 ≤ s) (s1 : s < A 6 0) (hb : bendA A s = -5) (k : ∀ M', IX A H h fl S L T M' → Φ (-5) M') : jB_arrowOf (A 8 s) 7 M Φ := by
  have hv := hV.1
  have hn := hv.n
  have ha := hv.a
  have fs := hv.from s s0 s1
  have ts := hv.to s s0 s1
  refine arrowOf_head hV hX s0 s1 (fun M3 s2 hX3 hd3 h2 => ?_)
  have bd := hd3.2.1 s s0 s1
  unfold jB_arrowOf_J45
  rw [show M3 6 s = A 9 s from hX3.1.from s s0 s1, show M3 7 s = A 10 s from hX3.1.to s s0 s1]
  refine ⟨s0, by omega, endOf_ok hX3.1 hv fs.1 fs.2 ⟨s0, by omega, ts.1, by omega, ?_⟩⟩
  rintro _ rfl
  refine ⟨fun z => absurd z (by decide), fun _ => ?_⟩
  refine ⟨fun z => absurd z (by decide), fun _ => ?_⟩
  refine ⟨fun z => absurd z (by decide), fun _ => ?_⟩
  refine ⟨fun z => absurd z (by decide), fun _ => ?_⟩
  refine ⟨fun z => absurd z (by decide), fun _ => ?_⟩
  refine ⟨fun z => absurd z (by decide), fun _ => ?_⟩
  refine ⟨fun z => absurd z (by decide), fun _ => ?_⟩
  refine ⟨fun _ => ?_, fun z => absurd rfl z⟩
  exact ⟨fun _ => k M3 hX3, fun e => absurd (h2.mpr hb) e⟩
theorem arrowOf0_any (hV : VS B A H h fl S L T) (hX : IX A H h fl S L T M) (p : Int) (kf : (∀ s, 0 ≤ s → s < A 6 0 → A 8 s ≠ p) → Φ (-1) M) (k : ∀ s M', 0 ≤ s → s < A 6 0 → A 8 s = p → IX A H h fl S L T M' → Φ (A 2 (A 9 s)) M') : jB_arrowOf p 0 M Φ := by
  by_cases hh : ∃ s, 0 ≤ s ∧ s < A 6 0 ∧ A 8 s = p
  · obtain ⟨s, s0, s1, e⟩ := hh
    rw [← e]
    exact arrowOf0_one hV hX s0 s1 (fun M' hX' => k s M' s0 s1 e hX')
  · unfold jB_arrowOf
    exact arrowSlotOf_ok hX.1 hV.1 (fun s s0 s1 es => absurd ⟨s, s0, s1, es⟩ hh) (fun hno => ⟨fun z => absurd z (by decide), fun _ => kf hno⟩)
theorem reason_one (hV : VS B A H h fl S L T) (hX : IX A H h fl S L T M) {s : Int} (s0 : 0 ≤ s) (s1 : s < A 6 0) (c : Int) (k : ∀ M', IX A H h fl S L T M' → Φ (reasonA A s c) M') : jB_reason (A 8 s) c M Φ := by
  have hv := hV.1
  unfold jB_reason
  refine arrowSlotOf_ok hX.1 hv (fun s' s0' s1' es => ⟨fun _ => ?_, fun z => absurd s0' z⟩) (fun hno => absurd rfl (hno s s0 s1))
  rw [anum_uniq hv s0' s1' s0 s1 es]
  exact whyShut_ok hX.1 hv (Or.inl rfl) s0 s1 (fun M' hs => k M' (hX.scr (fun a ha => hs a (by omega))))
theorem cell_one (hV : VS B A H h fl S L T) (hX : IX A H h fl S L T M) {s d : Int} {Φ : Int → Prop} (s0 : 0 ≤ s) (s1 : s < A 0 0) (d0 : A 4 s ≤ d) (d1 : d < endA A s) (k : Φ (A 2 s)) : jB_cell (A 3 s) d M Φ := by
  have hv := hV.1
  have ds := hv.day s s0 s1
  have ls := hv.lane s s0 s1
  have es : endA A s = A 4 s + A 5 s := rfl
  unfold jB_cell
  refine isLane_ok (fun w0 w1 => ⟨fun z => absurd z (by decide), fun _ => isDay_ok (fun e0 e1 => ⟨fun z => absurd z (by decide), fun _ => ?_⟩) (fun z => absurd ⟨by omega, by omega⟩ z)⟩) (fun z => absurd ls z)
  refine barAt_ok hX.1 hv ⟨e0, e1⟩ (fun i i0 i1 q1 q2 q3 => ?_) (fun hno => absurd ⟨d0, d1⟩ (hno s s0 s1 rfl))
  have e : i = s := by
    by_cases e : i = s
    · exact e
    · have := hv.apart i s i0 i1 s0 s1 e q1
      unfold endA at q3; omega
  subst e
  exact k
theorem strip_one (hV : VS B A H h fl S L T) (hX : IX A H h fl S L T M) {i w : Int} (i0 : 0 ≤ i) (w0 : 0 ≤ w) (w1 : w ≤ 4) (k : ∀ M', IX A H h fl S L T M' → CutP A (cutA A).1 (cutA A).2 → Φ (if i < (cutA A).2 then stripV A ((cutA A).1 i) ((cutA A).1 (i + 1)) w else -5) M') : jB_strip i w M Φ := by
  have hv := hV.1
  refine stripB_ok hX.1 hv (fun hb => by omega) (fun _ _ _ M1 hs n hC => ?_)
  have e := cutA_eq hv hC
  have q := k M1 (smC.scr hX hs) e.1
  rw [e.2.1]
  by_cases c : i < (cutA A).2
  · rw [if_pos c] at q ⊢
    rw [e.2.2 i i0 (by omega), e.2.2 (i + 1) (by omega) (by omega)]
    exact q
  · rw [if_neg c] at q ⊢
    exact q
theorem latest_one (hV : VS B A H h fl S L T) (hX : IX A H h fl S L T M) {s : Int} (s0 : 0 ≤ s) (s1 : s < A 0 0) (k : ∀ M', IX A H h fl S L T M' → LateP A (gEnd A) (latA A) → Φ (latA A s) M') : jB_latest (A 2 s) M Φ := by
  have hv := hV.1
  unfold jB_latest
  refine slotOf_ok hX.1 hv (fun s' s0' s1' es => ⟨fun _ => ?_, fun z => absurd s0' z⟩) (fun hno => absurd rfl (hno s s0 s1))
  rw [hv.uniq s0' s1' s0 s1 es]
  refine latestOf_ok hX.1 hv s0 s1 (fun D hD M1 hs => ?_)
  have e := latA_eq hv hD
  rw [e.2 s s0 s1]
  exact k M1 (hX.scr (fun a ha => hs a (by omega))) e.1
theorem longest_one (hV : VS B A H h fl S L T) (hX : IX A H h fl S L T M) (k : ∀ R M', IX A H h fl S L T M' → RowP A R → Φ (mxI R (A 0 0)) M') : jB_longest M Φ := by
  have hv := hV.1
  unfold jB_longest
  exact read_ok hX.1 hv (Or.inl rfl) (fun M3 hs3 ho3 hp3 => longestRow_ok (hs3.cv (Or.inl rfl) hX.1) hv (Or.inl rfl) ho3 hp3 (fun M5 hs5 hR => k _ M5 (hX.scr (fun a ha => (hs5 a (by omega)).trans (hs3 a (by omega) (by omega) (by omega)))) hR))
end AC
