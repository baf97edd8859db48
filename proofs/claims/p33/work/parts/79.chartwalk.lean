/-! a chart is so: the walk -/
theorem stripV_0 (A : zA) (s e : Int) : stripV A s e 0 = s := by unfold stripV; rw [if_pos rfl]
theorem stripV_1 (A : zA) (s e : Int) : stripV A s e 1 = e - s := by unfold stripV; rw [if_neg (by decide), if_pos rfl]
theorem stripV_2 (A : zA) (s e : Int) : stripV A s e 2 = plc A e - plc A s := by unfold stripV; rw [if_neg (by decide), if_neg (by decide), if_pos rfl]
theorem stripV_4 (A : zA) (s e : Int) : stripV A s e 4 = begunN A s e := by unfold stripV; rw [if_neg (by decide), if_neg (by decide), if_neg (by decide), if_neg (by decide)]
theorem ptsOf_rng {B : Int} {A : zA} (hv : Val B A) (k : Int) : 0 ≤ ptsOf A k ∧ ptsOf A k ≤ 80 := ptsOf_part hv k hv.a.1 (Int.le_refl _)
section AC
variable {A A' S : zA} {H : Int → zA} {h fl L B : Int} {T : Int → Int} {M M2 : zM} {b : Nat} {Φ : Int → zM → Prop}
theorem strip0_one (hV : VS B A H h fl S L T) (hX : IX A H h fl S L T M) {i : Int} (i0 : 0 ≤ i) (i1 : i < (cutA A).2) (k : ∀ M', IX A H h fl S L T M' → Φ ((cutA A).1 i) M') : jB_strip i 0 M Φ :=
  strip_one hV hX i0 (by decide) (by decide) (fun M' hX' _ => by rw [if_pos i1, stripV_0]; exact k M' hX')
theorem strip1_one (hV : VS B A H h fl S L T) (hX : IX A H h fl S L T M) {i : Int} (i0 : 0 ≤ i) (i1 : i < (cutA A).2) (k : ∀ M', IX A H h fl S L T M' → Φ ((cutA A).1 (i + 1) - (cutA A).1 i) M') : jB_strip i 1 M Φ :=
  strip_one hV hX i0 (by decide) (by decide) (fun M' hX' _ => by rw [if_pos i1, stripV_1]; exact k M' hX')
theorem strip2_one (hV : VS B A H h fl S L T) (hX : IX A H h fl S L T M) {i : Int} (i0 : 0 ≤ i) (i1 : i < (cutA A).2) (k : ∀ M', IX A H h fl S L T M' → Φ (plc A ((cutA A).1 (i + 1)) - plc A ((cutA A).1 i)) M') : jB_strip i 2 M Φ :=
  strip_one hV hX i0 (by decide) (by decide) (fun M' hX' _ => by rw [if_pos i1, stripV_2]; exact k M' hX')
theorem strip4_one (hV : VS B A H h fl S L T) (hX : IX A H h fl S L T M) {i : Int} (i0 : 0 ≤ i) (i1 : i < (cutA A).2) (k : ∀ M', IX A H h fl S L T M' → Φ (begunN A ((cutA A).1 i) ((cutA A).1 (i + 1))) M') : jB_strip i 4 M Φ :=
  strip_one hV hX i0 (by decide) (by decide) (fun M' hX' _ => by rw [if_pos i1, stripV_4]; exact k M' hX')
-- the arrows
theorem chartSo_393 (hV : VS B A H h fl S L T) (hX : IX A H h fl S L T M) (hC : CutP A (cutA A).1 (cutA A).2) (k : ∀ M', IX A H h fl S L T M' → Φ 1 M') : zwh (fun K s => jL_isChartSo_L393 K Φ (gEnd A) (A 0 0) (critN A (latA A)) (gEnd A) 1 (gEnd A) (plc A (gEnd A)) (A 0 0) (cutA A).2 (s.1) (s.2.1) (s.2.2.1) (s.2.2.2.1) (s.2.2.2.2)) (0, 0, 0, 0, M) := by
  have hv := hV.1
  have ha := hv.a
  have he := hv.aever
  refine zwh_run (fun s : Int × Int × Int × Int × zM => ∃ t, upTo (A 8) (A 6 0) s.2.2.2.1 t ∧ s.1 = sumI (ptsOf A) t ∧ s.2.1 = cntA (fun j => decide (bendA A j = -5)) t ∧ s.2.2.1 = cntA (fun j => decide (0 < lateA A j)) t ∧ (0 ≤ s.2.2.2.1 ∧ s.2.2.2.1 ≤ A 7 0) ∧ IX A H h fl S L T s.2.2.2.2) (fun s => (A 7 0 - s.2.2.2.1).toNat) ?_ (0, 0, 0, 0, M) ⟨0, upTo_0 ha.1 (fun j j0 j1 => (hv.anum j j0 j1).1), rfl, rfl, rfl, ⟨Int.le_refl 0, (show (0 : Int) ≤ A 7 0 by omega)⟩, hX⟩
  rintro K ⟨x10, x11, x12, x13, M3⟩ ⟨t, hu', i10, i11, i12, ⟨y0', y1'⟩, hX3'⟩ hK
  have hu : upTo (A 8) (A 6 0) x13 t := hu'
  have e10 : x10 = sumI (ptsOf A) t := i10
  have e11 : x11 = cntA (fun j => decide (bendA A j = -5)) t := i11
  have e12 : x12 = cntA (fun j => decide (0 < lateA A j)) t := i12
  have y0 : 0 ≤ x13 := y0'
  have y1 : x13 ≤ A 7 0 := y1'
  have hX3 : IX A H h fl S L T M3 := hX3'
  clear hu' i10 i11 i12 y0' y1' hX3'
  have ht := hu.1
  have r10 := sumI_rng (f := ptsOf A) (c := 80) (n := t) ht.1 (fun j _ _ => ptsOf_rng hv j)
  have r11 := cntA_rng (p := fun j => decide (bendA A j = -5)) ht.1
  have r12 := cntA_rng (p := fun j => decide (0 < lateA A j)) ht.1
  show jL_isChartSo_L393 K Φ (gEnd A) (A 0 0) (critN A (latA A)) (gEnd A) 1 (gEnd A) (plc A (gEnd A)) (A 0 0) (cutA A).2 x10 x11 x12 x13 M3
  unfold jL_isChartSo_L393
  refine count11_one hV hX3 (fun M6 hX6 => ⟨fun q => ?_, fun q => ?_⟩)
  · have et := upTo_end hu (fun j j0 j1 => by have := hv.anum j j0 j1; omega)
    rw [et] at e10 e11 e12
    rw [pts_twice ha.1] at e10
    have rr : 0 ≤ ptsA A ∧ ptsA A ≤ 1600 := rows_rng hv ha.1 (Int.le_refl _)
    refine ⟨fun z => absurd z (by decide), fun _ => count0_one hV hX6 (fun M8 hX8 => ⟨fun z => absurd rfl z, fun _ => count6_one hV hX8 (fun M10 hX10 => ⟨fun z => absurd rfl z, fun _ => ⟨fun z => absurd rfl z, fun _ => count9_one hV hX10 (fun M12 hX12 _ => ⟨fun z => absurd rfl z, fun _ => ⟨fun z => absurd rfl z, fun _ => count8_one hV hX12 (fun M14 hX14 => ⟨fun z => absurd rfl z, fun _ => ⟨fun z => absurd rfl z, fun _ => strip_one hV hX14 hC.1 (by decide) (by decide) (fun M16 hX16 _ => ?_)⟩⟩)⟩⟩)⟩⟩)⟩)⟩
    rw [if_neg (Int.lt_irrefl _)]
    exact ⟨fun z => absurd rfl z, fun _ => count5_one hV hX16 (fun M18 hX18 => ⟨by omega, fun z => absurd e10 z, fun _ => count3_one hV hX18 (fun M21 hX21 => ⟨fun z => absurd e11 z, fun _ => count4_one hV hX21 (fun M23 hX23 => ⟨fun z => absurd e12 z, fun _ => longest_one hV hX23 (fun R M25 hX25 hR => ⟨fun z => by have := longest_le hv hR; omega, fun _ => k M25 hX25⟩)⟩)⟩)⟩)⟩
  · refine arrowOf0_any hV hX6 x13 (fun hno => ⟨fun _ => ⟨by omega, ?_⟩, fun z => absurd (by decide) z⟩) (fun s M40 s0 s1 es hX40 => ⟨fun z => ?_, fun _ => ?_⟩)
    · rintro _ rfl
      exact hK (x10, x11, x12, x13 + 1, M6) ⟨t, upTo_no hu hno, e10, e11, e12, ⟨by show 0 ≤ x13 + 1; omega, by show x13 + 1 ≤ A 7 0; omega⟩, hX6⟩ (by show (A 7 0 - (x13 + 1)).toNat < (A 7 0 - x13).toNat; omega)
    · have fs := hv.from s s0 s1
      have := hv.num _ fs.1 fs.2
      omega
    · subst es
      have ua := upTo_at hv.anumlt hu s0 s1 rfl
      obtain ⟨est, hu1⟩ := ua
      subst est
      have pr := ptsOf_rng hv s
      refine arrowOf6_one hV hX40 s0 s1 (fun M43 hX43 => ⟨by omega, ?_⟩)
      rintro _ rfl
      have nx : ∀ c d M', IX A H h fl S L T M' → c = cntA (fun j => decide (bendA A j = -5)) (s + 1) → d = cntA (fun j => decide (0 < lateA A j)) (s + 1) → K (x10 + ptsOf A s, c, d, A 8 s + 1, M') := fun c d M' hX' ec ed => hK (x10 + ptsOf A s, c, d, A 8 s + 1, M') ⟨s + 1, hu1, by show x10 + ptsOf A s = sumI (ptsOf A) (s + 1); rw [sumI_s _ s0, e10], ec, ed, ⟨by show 0 ≤ A 8 s + 1; omega, by show A 8 s + 1 ≤ A 7 0; omega⟩, hX'⟩ (by show (A 7 0 - (A 8 s + 1)).toNat < (A 7 0 - A 8 s).toNat; omega)
      have j444 : ∀ c M', IX A H h fl S L T M' → (c = 0 ∨ c = 1) → x11 + c = cntA (fun j => decide (bendA A j = -5)) (s + 1) → jL_isChartSo_J444 K Φ (gEnd A) (A 0 0) (critN A (latA A)) (gEnd A) 1 (gEnd A) (plc A (gEnd A)) (A 0 0) (cutA A).2 (x10 + ptsOf A s) x12 (A 8 s) x11 c M' := by
        intro c M' hX' hc ec
        unfold jL_isChartSo_J444
        refine ⟨by omega, ?_⟩
        rintro _ rfl
        have lr := lateA_rng hv s0 s1
        refine arrowOf3_one hV hX' s0 s1 (fun M51 hX51 => ⟨fun q2 => ⟨by omega, ?_⟩, fun q2 => ⟨by omega, ?_⟩⟩)
        · rintro _ rfl
          refine ⟨by omega, ?_⟩
          rintro _ rfl
          exact nx _ _ M51 hX51 ec (by rw [cntA_f s0 (fun z => by have z := of_decide_eq_true z; omega), e12])
        · rintro _ rfl
          refine ⟨by omega, ?_⟩
          rintro _ rfl
          exact nx _ _ M51 hX51 ec (by rw [cntA_t s0 (decide_eq_true (by omega)), e12])
      refine arrowOf2_one hV hX43 s0 s1 (fun M47 hX47 hb => ?_)
      have bf := bend_free hv s0 s1 hb
      refine ⟨fun q2 => j444 0 M47 hX47 (Or.inl rfl) ?_, fun q2 => j444 1 M47 hX47 (Or.inr rfl) ?_⟩
      · rw [cntA_f s0 (fun z => by have z := of_decide_eq_true z; omega), e11]
      · rw [cntA_t s0 (decide_eq_true (bf.2.mp (by omega))), e11]
-- the strips
theorem chartSo_267 (hV : VS B A H h fl S L T) (hX : IX A H h fl S L T M) (hC : CutP A (cutA A).1 (cutA A).2) (k : ∀ M', IX A H h fl S L T M' → Φ 1 M') : zwh (fun K s => jL_isChartSo_L267 K Φ (gEnd A) (A 0 0) (critN A (latA A)) (gEnd A) (cutA A).2 (s.1) (s.2.1) (s.2.2.1) (s.2.2.2.1) (s.2.2.2.2.1) (s.2.2.2.2.2)) (1, 0, 0, 0, 0, M) := by
  have hv := hV.1
  have hg := gEnd_rng hv
  have hset := hv.set1
  refine zwh_run (fun s : Int × Int × Int × Int × Int × zM => s.1 = 1 ∧ s.2.1 = (cutA A).1 s.2.2.2.2.1 ∧ s.2.2.1 = plc A ((cutA A).1 s.2.2.2.2.1) ∧ s.2.2.2.1 = bef A ((cutA A).1 s.2.2.2.2.1) ∧ (0 ≤ s.2.2.2.2.1 ∧ s.2.2.2.2.1 ≤ (cutA A).2) ∧ IX A H h fl S L T s.2.2.2.2.2) (fun s => ((cutA A).2 - s.2.2.2.2.1).toNat) ?_ (1, 0, 0, 0, 0, M) ⟨rfl, hC.2.1.symm, by show (0 : Int) = plc A ((cutA A).1 0); rw [hC.2.1]; rfl, by show (0 : Int) = bef A ((cutA A).1 0); rw [hC.2.1]; exact (bef_0 hv).symm, ⟨Int.le_refl 0, hC.1⟩, hX⟩
  rintro K ⟨x5, x6, x7, x8, x10, M3⟩ ⟨i5, i6, i7, i8, ⟨y0', y1'⟩, hX3'⟩ hK
  have e5 : x5 = 1 := i5
  have e6 : x6 = (cutA A).1 x10 := i6
  have e7 : x7 = plc A ((cutA A).1 x10) := i7
  have e8 : x8 = bef A ((cutA A).1 x10) := i8
  have y0 : 0 ≤ x10 := y0'
  have y1 : x10 ≤ (cutA A).2 := y1'
  have hX3 : IX A H h fl S L T M3 := hX3'
  clear i5 i6 i7 i8 y0' y1' hX3'
  subst e5
  show jL_isChartSo_L267 K Φ (gEnd A) (A 0 0) (critN A (latA A)) (gEnd A) (cutA A).2 1 x6 x7 x8 x10 M3
  unfold jL_isChartSo_L267
  refine ⟨fun q => ?_, fun q => ?_⟩
  · have ex : x10 = (cutA A).2 := by omega
    rw [ex, hC.2.2.1] at e6 e7 e8
    rw [bef_end hv] at e8
    rw [e6, e7, e8]
    exact chartSo_393 hV hX3 hC k
  · have lt : x10 < (cutA A).2 := by omega
    have nx := hC.2.2.2 x10 y0 lt
    have c0 := cut_rng hv hC y0 y1
    have c1 := cut_rng hv hC (t := x10 + 1) (by omega) (by omega)
    have p0 := plc_rng hv (d := (cutA A).1 x10) (by omega) (by omega)
    have p1 := plc_rng hv (d := (cutA A).1 (x10 + 1)) (by omega) (by omega)
    have b0 := bef_rng hv ((cutA A).1 x10)
    have bg := begun_rng hv ((cutA A).1 x10) ((cutA A).1 (x10 + 1))
    have bs := bef_s hv (s := (cutA A).1 x10) (e := (cutA A).1 (x10 + 1)) (by have := nx.1; omega)
    have j332 : ∀ M', IX A H h fl S L T M' → jL_isChartSo_J332 K Φ (gEnd A) (A 0 0) (critN A (latA A)) (gEnd A) x6 x7 x8 (cutA A).2 x10 M' := by
      intro M' hX'
      unfold jL_isChartSo_J332 jL_isChartSo_J337
      refine strip1_one hV hX' y0 lt (fun M65 hX65 => ⟨by omega, ?_⟩)
      rintro _ rfl
      refine strip2_one hV hX65 y0 lt (fun M69 hX69 => ⟨by omega, ?_⟩)
      rintro _ rfl
      refine strip4_one hV hX69 y0 lt (fun M73 hX73 => ⟨by omega, ?_⟩)
      rintro _ rfl
      refine ⟨by omega, ?_⟩
      rintro _ rfl
      exact hK (1, _, _, _, x10 + 1, M73) ⟨rfl, by show x6 + ((cutA A).1 (x10 + 1) - (cutA A).1 x10) = (cutA A).1 (x10 + 1); omega, by show x7 + (plc A ((cutA A).1 (x10 + 1)) - plc A ((cutA A).1 x10)) = plc A ((cutA A).1 (x10 + 1)); omega, by show x8 + begunN A ((cutA A).1 x10) ((cutA A).1 (x10 + 1)) = bef A ((cutA A).1 (x10 + 1)); omega, ⟨by show 0 ≤ x10 + 1; omega, by show x10 + 1 ≤ (cutA A).2; omega⟩, hX73⟩ (by show ((cutA A).2 - (x10 + 1)).toNat < ((cutA A).2 - x10).toNat; omega)
    have n1 := nx.1
    have n3 := nx.2.2.1
    refine count16_one hV hX3 (fun M63 hX63 => ⟨fun z => absurd z (by decide), fun _ => strip0_one hV hX63 y0 lt (fun M78 hX78 => ⟨fun z => absurd e6.symm z, fun _ => strip1_one hV hX78 y0 lt (fun M80 hX80 => ⟨fun z => by omega, fun _ => strip2_one hV hX80 y0 lt (fun M82 hX82 => ⟨fun _ => j332 M82 hX82, fun z => absurd n3 z⟩)⟩)⟩)⟩)
-- the bars
theorem chartSo_ok (hV : VS B A H h fl S L T) (hX : IX A H h fl S L T M) (k : ∀ M', IX A H h fl S L T M' → Φ 1 M') : jL_isChartSo M Φ := by
  have hv := hV.1
  have hn := hv.n
  have he := hv.ever
  unfold jL_isChartSo
  refine zwh_run (fun s : Int × Int × Int × Int × Int × Int × zM => ∃ t, upTo (A 2) (A 0 0) s.2.2.2.2.2.1 t ∧ s.1 = mxI (endA A) t ∧ s.2.1 = t ∧ s.2.2.1 = cntA (fun j => decide (latA A j = A 4 j)) t ∧ s.2.2.2.1 = mxI (fun j => latA A j + A 5 j) t ∧ s.2.2.2.2.1 = 1 ∧ (0 < t → LateP A (gEnd A) (latA A)) ∧ (0 ≤ s.2.2.2.2.2.1 ∧ s.2.2.2.2.2.1 ≤ A 1 0) ∧ IX A H h fl S L T s.2.2.2.2.2.2) (fun s => (A 1 0 - s.2.2.2.2.2.1).toNat) ?_ (0, 0, 0, 0, 1, 0, M) ⟨0, upTo_0 hn.1 (fun j j0 j1 => (hv.num j j0 j1).1), rfl, rfl, rfl, rfl, rfl, fun z => by omega, ⟨Int.le_refl 0, (show (0 : Int) ≤ A 1 0 by omega)⟩, hX⟩
  rintro K ⟨x1, x2, x3, x4, x5, x6, M3⟩ ⟨t, hu', i1, i2, i3, i4, i5, hE', ⟨y0', y1'⟩, hX3'⟩ hK
  have hu : upTo (A 2) (A 0 0) x6 t := hu'
  have e1 : x1 = mxI (endA A) t := i1
  have e2 : x2 = t := i2
  have e3 : x3 = cntA (fun j => decide (latA A j = A 4 j)) t := i3
  have e4 : x4 = mxI (fun j => latA A j + A 5 j) t := i4
  have e5 : x5 = 1 := i5
  have hE : 0 < t → LateP A (gEnd A) (latA A) := hE'
  have y0 : 0 ≤ x6 := y0'
  have y1 : x6 ≤ A 1 0 := y1'
  have hX3 : IX A H h fl S L T M3 := hX3'
  clear hu' i1 i2 i3 i4 i5 hE' y0' y1' hX3'
  subst e5
  subst e2
  have ht := hu.1
  have r3 := cntA_rng (p := fun j => decide (latA A j = A 4 j)) ht.1
  show jL_isChartSo_L15 K Φ x1 x2 x3 x4 1 x6 M3
  unfold jL_isChartSo_L15
  refine count10_one hV hX3 (fun M5 hX5 => ⟨fun q => ?_, fun q => ?_⟩)
  · have et := upTo_end hu (fun j j0 j1 => by have := hv.num j j0 j1; omega)
    rw [et] at e1 e3 e4 hE ⊢
    have e4' : x4 = gEnd A := by
      by_cases z : 0 < A 0 0
      · rw [e4]; exact late_gEnd hv (hE z)
      · have z0 : A 0 0 = 0 := by omega
        rw [e4]
        unfold gEnd
        rw [z0]
        rfl
    have e1' : x1 = gEnd A := e1
    have e3' : x3 = critN A (latA A) := e3
    rw [e1', e3', e4']
    exact count7_one hV hX5 (fun M7 hX7 hC => chartSo_267 hV hX7 hC k)
  · refine barOf0_any hV hX5 x6 (fun hno => ⟨fun _ => ⟨by omega, ?_⟩, fun z => absurd (by decide) z⟩) (fun s s0 s1 es => ⟨fun z => ?_, fun _ => ?_⟩)
    · rintro _ rfl
      exact hK (x1, x2, x3, x4, 1, x6 + 1, M5) ⟨x2, upTo_no hu hno, e1, rfl, e3, e4, rfl, hE, ⟨by show 0 ≤ x6 + 1; omega, by show x6 + 1 ≤ A 1 0; omega⟩, hX5⟩ (by show (A 1 0 - (x6 + 1)).toNat < (A 1 0 - x6).toNat; omega)
    · have := hv.lane s s0 s1
      omega
    · subst es
      obtain ⟨est, hu1⟩ := upTo_at hv.numlt hu s0 s1 rfl
      subst est
      have ds := hv.day s s0 s1
      have hg := gEnd_rng hv
      have es : endA A s = A 4 s + A 5 s := rfl
      refine barOf1_one hV hX5 s0 s1 (fun M95 hX95 => barOf6_one hV hX95 s0 s1 (fun M97 hX97 hE1 => ⟨by omega, ?_⟩))
      rintro _ rfl
      have ls := hE1.1 s s0 s1
      have nx : ∀ y c z M', IX A H h fl S L T M' → y = mxI (endA A) (s + 1) → c = cntA (fun j => decide (latA A j = A 4 j)) (s + 1) → z = mxI (fun j => latA A j + A 5 j) (s + 1) → K (y, s + 1, c, z, 1, A 2 s + 1, M') := fun y c z M' hX' ey ec ez => hK (y, s + 1, c, z, 1, A 2 s + 1, M') ⟨s + 1, hu1, ey, rfl, ec, ez, rfl, fun _ => hE1, ⟨by show 0 ≤ A 2 s + 1; omega, by show A 2 s + 1 ≤ A 1 0; omega⟩, hX'⟩ (by show (A 1 0 - (A 2 s + 1)).toNat < (A 1 0 - A 2 s).toNat; omega)
      have j132 : ∀ y c z M', IX A H h fl S L T M' → y = mxI (endA A) (s + 1) → c = cntA (fun j => decide (latA A j = A 4 j)) (s + 1) → z = mxI (fun j => latA A j + A 5 j) (s + 1) → jL_isChartSo_J132 K Φ y (s + 1) c 1 (A 2 s) (A 4 s) (latA A s - A 4 s) z M' := by
        intro y c z M' hX' ey ec ez
        unfold jL_isChartSo_J132
        refine ⟨fun w => absurd w (by decide), fun _ => barOf3_one hV hX' s0 s1 (fun M110 hX110 => barOf2_one hV hX110 s0 s1 (fun M112 hX112 => ⟨by omega, fun w => absurd rfl w, fun _ => barOf3_one hV hX112 s0 s1 (fun M116 hX116 => ⟨fun w => by omega, fun _ => latest_one hV hX116 s0 s1 (fun M119 hX119 _ => ⟨by omega, fun w => absurd rfl w, fun _ => ⟨fun w => by omega, fun _ => barOf0_one hV hX119 s0 s1 (fun M124 hX124 => cell_one hV hX124 s0 s1 (Int.le_refl _) (by omega) ⟨fun w => absurd rfl w, fun _ => barOf0_one hV hX124 s0 s1 (fun M129 hX129 => barOf3_one hV hX129 s0 s1 (fun M131 hX131 => ⟨by omega, cell_one hV hX131 s0 s1 (by omega) (by omega) ⟨fun w => absurd rfl w, fun _ => ⟨by omega, ?_⟩⟩⟩))⟩)⟩⟩)⟩)⟩))⟩
        rintro _ rfl
        exact nx _ _ _ M131 hX131 ey ec ez
      have j92 : ∀ y c d M', IX A H h fl S L T M' → y = mxI (endA A) (s + 1) → (d = 0 ∨ d = 1) → c + d = cntA (fun j => decide (latA A j = A 4 j)) (s + 1) → c = x3 → jL_isChartSo_J92 K Φ y (s + 1) x4 1 (A 2 s) (A 4 s) (latA A s - A 4 s) c d M' := by
        intro y c d M' hX' ey hd ec ecx
        have mx := mxI_s (fun j => latA A j + A 5 j) s0
        have mx : mxI (fun j => latA A j + A 5 j) (s + 1) = max (mxI (fun j => latA A j + A 5 j) s) (latA A s + A 5 s) := mx
        rw [← e4] at mx
        unfold jL_isChartSo_J92
        refine ⟨by omega, ?_⟩
        rintro _ rfl
        refine latest_one hV hX' s0 s1 (fun M104 hX104 _ => barOf2_one hV hX104 s0 s1 (fun M106 hX106 => ⟨by omega, fun w => j132 _ _ _ M106 hX106 ey ec (by omega), fun w => latest_one hV hX106 s0 s1 (fun M145 hX145 _ => barOf2_one hV hX145 s0 s1 (fun M147 hX147 => ⟨by omega, j132 _ _ _ M147 hX147 ey ec (by omega)⟩))⟩))
      have j80 : ∀ y M', IX A H h fl S L T M' → y = mxI (endA A) (s + 1) → jL_isChartSo_J80 K Φ (s + 1) x3 x4 1 (A 2 s) (A 4 s) (latA A s - A 4 s) y M' := by
        intro y M' hX' ey
        unfold jL_isChartSo_J80
        refine ⟨fun w => j92 y x3 0 M' hX' ey (Or.inl rfl) ?_ rfl, fun w => j92 y x3 1 M' hX' ey (Or.inr rfl) ?_ rfl⟩
        · rw [cntA_f s0 (fun z => by have z := of_decide_eq_true z; omega), e3]
        · rw [cntA_t s0 (decide_eq_true (by omega)), e3]
      have mx := mxI_s (endA A) s0
      rw [← e1] at mx
      exact barOf3_one hV hX97 s0 s1 (fun M100 hX100 => ⟨fun w => j80 x1 M100 hX100 (by omega), fun w => barOf3_one hV hX100 s0 s1 (fun M152 hX152 => j80 _ M152 hX152 (by omega))⟩)
end AC
