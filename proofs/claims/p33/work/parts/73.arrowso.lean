/-! an arrow is so: reasons, the free bend by the setting, and what goes with it -/
theorem reason_cases (A : zA) (k c : Int) : (reasonA A k c = 0 ∧ freeP A k c) ∨ (reasonA A k c = 1 ∧ ¬ (eF A k ≤ c ∧ c ≤ fT A k)) ∨ (2 ≤ reasonA A k c ∧ reasonA A k c ≤ 4 ∧ (eF A k ≤ c ∧ c ≤ fT A k) ∧ ¬ freeP A k c) := by
  by_cases h : eF A k ≤ c ∧ c ≤ fT A k
  · by_cases h2 : sh2 A k c
    · refine Or.inr (Or.inr ?_); rw [reason2 h h2]; exact ⟨by decide, by decide, h, fun z => z.2.1 h2⟩
    · by_cases h3 : sh3 A k c
      · refine Or.inr (Or.inr ?_); rw [reason3 h h2 h3]; exact ⟨by decide, by decide, h, fun z => z.2.2.1 h3⟩
      · by_cases h4 : sh4 A k c
        · refine Or.inr (Or.inr ?_); rw [reason4 h h2 h3 h4]; exact ⟨by decide, by decide, h, fun z => z.2.2.2 h4⟩
        · exact Or.inl ⟨reason0 ⟨h, h2, h3, h4⟩, h, h2, h3, h4⟩
  · exact Or.inr (Or.inl ⟨reason1 h, h⟩)
noncomputable def frC (A : zA) (k n : Int) : Int := by classical exact cntA (fun c => decide (freeP A k c)) n
theorem frC_t {A : zA} {k n : Int} (h : 0 ≤ n) (hp : freeP A k n) : frC A k (n + 1) = frC A k n + 1 := by
  classical
  unfold frC
  exact cntA_t h (decide_eq_true hp)
theorem frC_f {A : zA} {k n : Int} (h : 0 ≤ n) (hp : ¬ freeP A k n) : frC A k (n + 1) = frC A k n + 0 := by
  classical
  unfold frC
  exact cntA_f h (fun z => hp (of_decide_eq_true z))
theorem frC_rng {A : zA} {k n : Int} (hn : 0 ≤ n) : 0 ≤ frC A k n ∧ frC A k n ≤ n := by
  classical
  unfold frC
  exact cntA_rng hn
theorem frC_const {A : zA} {k m n : Int} (h0 : 0 ≤ m) (h1 : m ≤ n) (h : ∀ j, m ≤ j → j < n → ¬ freeP A k j) : frC A k n = frC A k m := by
  classical
  unfold frC
  exact cntA_const h0 h1 (fun j j0 j1 z => h j j0 j1 (of_decide_eq_true z))
theorem frC_none {A : zA} {k n : Int} (hc : frC A k n = 0) {j : Int} (j0 : 0 ≤ j) (j1 : j < n) : ¬ freeP A k j := by
  classical
  unfold frC at hc
  exact fun z => cntA_none hc j0 j1 (decide_eq_true z)
theorem freeN_eq (A : zA) (k : Int) : freeN A k = frC A k 200 := rfl
theorem sumI_zero {f : Int → Int} {n : Int} (hn : 0 ≤ n) (h : ∀ j, 0 ≤ j → j < n → f j = 0) : sumI f n = 0 := by
  have := sumI_rng (f := f) (c := 0) hn (fun j j0 j1 => by rw [h j j0 j1]; omega)
  omega
theorem pts_none {A : zA} {k : Int} (ha : 0 ≤ A 6 0) (h : bendA A k = -5) : ptsOf A k = 0 := by
  unfold ptsOf
  refine sumI_zero ha (fun o _ _ => ?_)
  rw [crossN_f (fun z => z.1 h), crossN_f (fun z => z.2.1 h)]
  rfl
theorem bend_free {B : Int} {A : zA} (hv : Val B A) {k : Int} (k0 : 0 ≤ k) (k1 : k < A 6 0) (hb : BendP A k (bendA A k)) : (bendA A k < 0 ↔ freeN A k = 0) ∧ (bendA A k < 0 ↔ bendA A k = -5) := by
  have er := eF_rng hv k0 k1
  have fr := fT_rng hv k0 k1
  rcases hb with ⟨e, hn⟩ | ⟨hf, _⟩
  · have z : freeN A k = 0 := by
      rw [freeN_eq]
      exact frC_const (m := 0) (n := 200) (by decide) (by decide) (fun j _ _ => hn j)
    exact ⟨⟨fun _ => z, fun _ => by omega⟩, ⟨fun _ => e, fun _ => by omega⟩⟩
  · have r := hf.1
    refine ⟨⟨fun z => by omega, fun z => ?_⟩, ⟨fun z => by omega, fun z => by omega⟩⟩
    rw [freeN_eq] at z
    exact absurd hf (frC_none z (by omega) (by omega))
section AC
variable {A A' S : zA} {H : Int → zA} {h fl L B : Int} {T : Int → Int} {M M2 : zM} {b : Nat} {Φ : Int → zM → Prop}
theorem arrowSo_end (hV : VS B A H h fl S L T) (hX : IX A H h fl S L T M) {s : Int} (s0 : 0 ≤ s) (s1 : s < A 6 0) (hb : BendP A s (bendA A s)) (k : ∀ M', IX A H h fl S L T M' → Φ 1 M') {late : Int} (hl : late = lateA A s) : jL_isArrowSo_J268 (A 8 s) Φ (bendA A s) (freeN A s) (bendA A s) late M := by
  have hv := hV.1
  have ha := hv.a
  have bf := bend_free hv s0 s1 hb
  have lf : 0 < lateA A s → bendA A s < 0 := by
    intro hp
    rcases hb with ⟨e, _⟩ | ⟨hf, _⟩
    · omega
    · have r : eF A s ≤ bendA A s ∧ bendA A s ≤ fT A s := hf.1
      have q : lateA A s = max 0 (eF A s - fT A s) := rfl
      omega
  have j381 : ∀ M', IX A H h fl S L T M' → jL_isArrowSo_J381 (A 8 s) Φ M' := fun M' hX' => k M' hX'
  have j351 : ∀ M' x, IX A H h fl S L T M' → jL_isArrowSo_J351 (A 8 s) Φ (bendA A s) x x M' := by
    intro M' x hX'
    unfold jL_isArrowSo_J351
    refine ⟨fun z => absurd rfl z, fun _ => ⟨fun _ => j381 M' hX', fun q => ?_⟩⟩
    have e5 := bf.2.mp (by omega)
    refine arrowOf6_one hV hX' s0 s1 (fun M3 hX3 => ?_)
    rw [pts_none ha.1 e5]
    exact ⟨fun z => absurd rfl z, fun _ => arrowOf7_one hV hX3 s0 s1 e5 (fun M5 hX5 => ⟨fun z => absurd rfl z, fun _ => j381 M5 hX5⟩)⟩
  have j341 : ∀ M' x, IX A H h fl S L T M' → ((x = 0 ∧ 0 ≤ bendA A s) ∨ (x = 1 ∧ bendA A s < 0)) → jL_isArrowSo_J341 (A 8 s) Φ (bendA A s) x M' := by
    intro M' x hX' hx
    unfold jL_isArrowSo_J341
    refine ⟨fun q => ?_, fun q => ?_⟩
    · rw [show x = 0 by omega]; exact j351 M' 0 hX'
    · rw [show x = 1 by omega]; exact j351 M' 1 hX'
  have j324 : ∀ M' x, IX A H h fl S L T M' → jL_isArrowSo_J324 (A 8 s) Φ (bendA A s) x x M' := by
    intro M' x hX'
    unfold jL_isArrowSo_J324
    refine ⟨fun z => absurd rfl z, fun _ => arrowOf5_one hV hX' s0 s1 (fun r M3 hX3 hr => ⟨fun q => j341 M3 0 hX3 (Or.inl ⟨rfl, ?_⟩), fun q => j341 M3 1 hX3 (Or.inr ⟨rfl, ?_⟩)⟩)⟩
    · have : ¬ bendA A s = -5 := fun z => by have := hr.mpr z; omega
      have := bf.2
      omega
    · have := hr.mp (by omega)
      omega
  have j309 : ∀ M' x, IX A H h fl S L T M' → ((x = 0 ∧ 0 ≤ bendA A s) ∨ (x = 1 ∧ bendA A s < 0)) → jL_isArrowSo_J309 (A 8 s) Φ (bendA A s) (freeN A s) late x M' := by
    intro M' x hX' hx
    unfold jL_isArrowSo_J309 jL_isArrowSo_J319
    refine ⟨fun q => ?_, fun q => ⟨fun q2 => ?_, fun q2 => ?_⟩⟩
    · have := lf (by omega)
      rw [show x = 1 by omega]; exact j324 M' 1 hX'
    · have : ¬ bendA A s < 0 := fun z => q2 (bf.1.mp z)
      rw [show x = 0 by omega]; exact j324 M' 0 hX'
    · have := bf.1.mpr q2
      rw [show x = 1 by omega]; exact j324 M' 1 hX'
  unfold jL_isArrowSo_J268
  refine arrowOf3_one hV hX s0 s1 (fun M3 hX3 => ⟨fun z => absurd hl.symm z, fun _ => arrowOf4_one hV hX3 s0 s1 (fun M5 hX5 => ⟨fun z => absurd rfl z, fun _ => ⟨fun z => absurd rfl z, fun _ => ⟨fun q => j309 M5 0 hX5 (Or.inl ⟨rfl, q⟩), fun q => j309 M5 1 hX5 (Or.inr ⟨rfl, by omega⟩)⟩⟩⟩)⟩)
theorem arrowSo_ok (hV : VS B A H h fl S L T) (hX : IX A H h fl S L T M) {s : Int} (s0 : 0 ≤ s) (s1 : s < A 6 0) (k : ∀ M', IX A H h fl S L T M' → Φ 1 M') : jL_isArrowSo (A 8 s) M Φ := by
  have hv := hV.1
  have fs := hv.from s s0 s1
  have ts := hv.to s s0 s1
  have er := eF_rng hv s0 s1
  have fr := fT_rng hv s0 s1
  have hs := hv.set0
  unfold jL_isArrowSo
  refine arrowOf0_one hV hX s0 s1 (fun M2 hX2 => arrowOf1_one hV hX2 s0 s1 (fun M4 hX4 => barOf3_one hV hX4 fs.1 fs.2 (fun M6 hX6 => barOf1_one hV hX6 ts.1 ts.2 (fun M8 hX8 => arrowOf2_one hV hX8 s0 s1 (fun M10 hX10 hb => ?_)))))
  show i32 (eF A s - 1) ∧ ∀ v : Int, v = eF A s - 1 → zwh (fun K t => jL_isArrowSo_L56 (A 8 s) K Φ (eF A s) (fT A s) (bendA A s) (t.1) (t.2.1) (t.2.2.1) (t.2.2.2.1) (t.2.2.2.2)) (0, (-5), 9999, v, M10)
  refine ⟨by omega, ?_⟩
  rintro _ rfl
  have nf : ∀ d, ¬ (eF A s ≤ d ∧ d ≤ fT A s) → ¬ freeP A s d := fun d hd z => hd z.1
  have n5 : ¬ freeP A s (-5) := nf _ (by omega)
  refine zwh_run (fun t : Int × Int × Int × Int × zM => eF A s - 1 ≤ t.2.2.2.1 ∧ (t.2.2.2.1 ≤ eF A s - 1 ∨ t.2.2.2.1 ≤ fT A s + 2) ∧ t.1 = frC A s t.2.2.2.1 ∧ BestP A s t.2.1 t.2.2.2.1 ∧ t.2.2.1 = (if t.2.1 = -5 then 9999 else worthA A s t.2.1) ∧ IX A H h fl S L T t.2.2.2.2) (fun t => (fT A s + 2 - t.2.2.2.1).toNat) ?_ (0, -5, 9999, eF A s - 1, M10) ⟨Int.le_refl _, Or.inl (Int.le_refl _), ?_, Or.inl ⟨rfl, fun d hd => ?_⟩, rfl, hX10⟩
  · rintro K ⟨x7, x8, x9, c, M3⟩ ⟨c0, c1, e7, e8, e9, hX3⟩ hK
    have c0 : eF A s - 1 ≤ c := c0
    have c1 : c ≤ eF A s - 1 ∨ c ≤ fT A s + 2 := c1
    have e7 : x7 = frC A s c := e7
    have e8 : BestP A s x8 c := e8
    have e9 : x9 = (if x8 = -5 then 9999 else worthA A s x8) := e9
    have hX3 : IX A H h fl S L T M3 := hX3
    have r7 := frC_rng (A := A) (k := s) (n := c) (by omega)
    show jL_isArrowSo_L56 (A 8 s) K Φ (eF A s) (fT A s) (bendA A s) x7 x8 x9 c M3
    unfold jL_isArrowSo_L56
    refine ⟨by omega, fun q => ?_, fun q => ?_⟩
    · have e8' : x8 = bendA A s := bend_uniq hv s0 s1 (best_end e8 (fun d hd => nf d (by omega))) hb
      have e7' : x7 = freeN A s := by
        rw [e7, freeN_eq]
        by_cases z : c ≤ 200
        · exact (frC_const (by omega) z (fun j _ _ => nf j (by omega))).symm
        · exact frC_const (by decide) (by omega) (fun j _ _ => nf j (by omega))
      rw [e8', e7']
      have q : lateA A s = max 0 (eF A s - fT A s) := rfl
      exact ⟨fun z => arrowSo_end hV hX3 s0 s1 hb k (by omega), fun z => ⟨by omega, arrowSo_end hV hX3 s0 s1 hb k (by omega)⟩⟩
    · refine reason_one hV hX3 s0 s1 c (fun M5 hX5 => ?_)
      have rc := reason_cases A s c
      have go : ∀ x7' x8' x9' M', IX A H h fl S L T M' → x7' = frC A s (c + 1) → BestP A s x8' (c + 1) → x9' = (if x8' = -5 then 9999 else worthA A s x8') → K (x7', x8', x9', c + 1, M') := fun x7' x8' x9' M' hX' a1 a2 a3 => hK (x7', x8', x9', c + 1, M') ⟨by show eF A s - 1 ≤ c + 1; omega, by show c + 1 ≤ eF A s - 1 ∨ c + 1 ≤ fT A s + 2; omega, a1, a2, a3, hX'⟩ (by show (fT A s + 2 - (c + 1)).toNat < (fT A s + 2 - c).toNat; omega)
      have j187 : ∀ its M', IX A H h fl S L T M' → its = worthA A s c → jL_isArrowSo_J187 (A 8 s) K Φ (eF A s) (fT A s) (bendA A s) x7 x8 x9 c (reasonA A s c) its M' := by
        intro its M' hX' ei
        unfold jL_isArrowSo_J187 jL_isArrowSo_J201
        refine ⟨fun q0 => ⟨by omega, ?_⟩, fun q0 => ⟨by omega, ?_⟩⟩
        · rintro _ rfl
          refine ⟨fun _ => ?_, fun z => absurd z q0⟩
          unfold jL_isArrowSo_J221 jL_isArrowSo_J223
          refine ⟨fun _ => ⟨by omega, ?_⟩, fun z => absurd z q0⟩
          rintro _ rfl
          have hn : ¬ freeP A s c := fun z => q0 (reason0 z)
          exact go _ _ _ M' hX' (by rw [frC_f (by omega) hn, e7]) (best_skip e8 hn) e9
        · rintro _ rfl
          have hf : freeP A s c := by
            rcases rc with z | z | z
            · exact z.2
            · omega
            · omega
          have a7 : x7 + 1 = frC A s (c + 1) := by rw [frC_t (by omega) hf, e7]
          have wr : 0 ≤ worthA A s c ∧ worthA A s c ≤ 1000 := by
            have r : eF A s ≤ c ∧ c ≤ fT A s := hf.1
            unfold worthA
            split
            · omega
            · split
              · omega
              · exact zabs_rng (by omega)
          have keep : x9 ≤ its → ¬ x8 = -5 := fun z e => by rw [e, if_pos rfl] at e9; omega
          have w9 : ¬ x8 = -5 → x9 = worthA A s x8 := fun z => by rw [if_neg z] at e9; exact e9
          have t9 : ¬ x9 ≤ its → x8 = -5 ∨ worthA A s c < worthA A s x8 := fun z => by
            by_cases e : x8 = -5
            · exact Or.inl e
            · exact Or.inr (by rw [← w9 e]; omega)
          have cn5 : ¬ c = -5 := by omega
          refine ⟨fun z => absurd q0 z, fun _ => ⟨fun q1 => ?_, fun q1 => ?_⟩⟩
          · unfold jL_isArrowSo_J221 jL_isArrowSo_J223
            refine ⟨fun z => absurd q0 z, fun _ => ⟨fun _ => ⟨by omega, ?_⟩, fun z => absurd q1 z⟩⟩
            rintro _ rfl
            have k5 := keep q1
            exact go _ _ _ M' hX' a7 (best_keep e8 hf k5 (by rw [← w9 k5]; omega)) e9
          · unfold jL_isArrowSo_J223
            refine ⟨fun z => absurd q0 z, fun _ => ⟨fun z => absurd z q1, fun _ => ⟨by omega, ?_⟩⟩⟩
            rintro _ rfl
            exact go _ _ _ M' hX' a7 (best_take e8 hf (t9 q1) (fun e => by rw [e]; exact n5)) (by rw [if_neg cn5, ei])
      have j108 : ∀ x y, ¬ x = y → jL_isArrowSo_J108 (A 8 s) K Φ (eF A s) (fT A s) (bendA A s) x7 x8 x9 c (reasonA A s c) x y M5 := by
        intro x y xy
        unfold jL_isArrowSo_J108
        refine ⟨fun z => absurd z xy, fun _ => ⟨fun z => by omega, fun _ => ⟨fun _ => ⟨by omega, ?_⟩, fun z => by omega⟩⟩⟩
        rintro _ rfl
        refine ⟨by omega, ?_⟩
        rintro _ rfl
        refine count15_one hV hX5 (fun M6 hX6 => ⟨fun q0 => count15_one hV hX6 (fun M7 hX7 => ⟨fun q1 => ⟨fun q2 => ⟨by omega, j187 _ M7 hX7 ?_⟩, fun q2 => ⟨by omega, j187 _ M7 hX7 ?_⟩⟩, fun q1 => j187 _ M7 hX7 ?_⟩), fun q0 => j187 _ M6 hX6 ?_⟩)
        · unfold worthA zabs; rw [if_neg q0, if_neg q1]; split <;> omega
        · unfold worthA zabs; rw [if_neg q0, if_neg q1]; split <;> omega
        · unfold worthA; rw [if_neg q0, if_pos q1]
        · unfold worthA; rw [if_pos q0]
      have j93 : ∀ x, ((x = 0 ∧ ¬ (eF A s ≤ c ∧ c ≤ fT A s)) ∨ (x = 1 ∧ (eF A s ≤ c ∧ c ≤ fT A s))) → jL_isArrowSo_J93 (A 8 s) K Φ (eF A s) (fT A s) (bendA A s) x7 x8 x9 c (reasonA A s c) x M5 := by
        intro x hx
        unfold jL_isArrowSo_J93
        refine ⟨fun z => j108 x 0 (fun e => ?_), fun z => j108 x 1 (fun e => ?_)⟩
        · rcases hx with y | y
          · exact z (reason1 y.2)
          · omega
        · rcases hx with y | y
          · omega
          · rcases rc with w | w | w
            · omega
            · exact w.2 y.2
            · omega
      exact ⟨fun z => j93 0 (Or.inl ⟨rfl, by omega⟩), fun z => ⟨fun z2 => j93 0 (Or.inl ⟨rfl, by omega⟩), fun z2 => j93 1 (Or.inr ⟨rfl, by omega⟩)⟩⟩
  · show (0 : Int) = frC A s (eF A s - 1)
    exact (frC_const (m := 0) (by decide) (by omega) (fun j _ _ => nf j (by omega))).symm
  · exact nf d (by have hd : d < eF A s - 1 := hd; omega)
end AC
