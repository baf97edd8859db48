/-! a part of the text read by the reference; the fault of the text -/
section AC
variable {A A' S : zA} {H : Int → zA} {h fl L B p q lo hi : Int} {T : Int → Int} {M M2 M3 Mm Mx Mx' W W' W0 : zM} {b : Nat}
def noFlt (T : Int → Int) (W : zM) (L : Int) : Prop := ∀ q, ¬ Flt T W L q
def atEnd (T : Int → Int) (L : Int) (W0 W : zM) (q : Int) (W' : zM) : Prop := q ≤ L ∧ Rn T (iniM W0) q.toNat W' ∧ W' 73 2 = W 73 2 ∧ 0 < W' 73 8 ∧ noDig T L q W'
theorem partJ_wrong (hT : TR T L) (hx : Tx T L M) (hp : M 0 12 = p) (p0 : 0 ≤ p) (p1 : p ≤ L) (hw : ¬ M 0 13 = 0) (hfl : fl = 0) {x : Int} {Φ : Int → zM → Prop} (k : ∀ M', fr M M' → M' 0 13 = 1 → M' 0 12 = p → Φ 0 M') : jM_part_J78 fl Φ x M := by
  unfold jM_part_J78
  refine sign_ok hT hx hp p0 p1 (fun _ r M4 _ _ hf h13 h12 => ?_) (fun z => absurd z hw)
  exact number_wrong hT (hx.fr hf) h12 p0 p1 (by rw [h13]; decide) (Or.inl rfl) (fun r M5 hf5 h135 h125 => ⟨fun _ => k M5 (hf.tr hf5) h135 h125, fun z => absurd hfl z⟩)
theorem Rn.next (hp : 0 ≤ p) (hR : Rn T (iniM W0) p.toNat W) (hs : TSt (T p) W W') : Rn T (iniM W0) (p + 1).toNat W' := by
  rw [show (p + 1).toNat = p.toNat + 1 by omega]
  exact ⟨W, hR, by rw [show ((p.toNat : Nat) : Int) = p by omega]; exact hs⟩
theorem turnM_8 (f : Int) : turnM f M 73 8 = 0 := begM_8 f
theorem turnM_6 (f : Int) : turnM f M 73 6 = f := begM_6 f
theorem turnM_75 (f : Int) (h : M 73 6 = 0) (h2 : M 73 2 < 16) : turnM f M 75 (M 73 2) = M 73 7 := by
  unfold turnM
  rw [begM_o f (by omega)]
  unfold stoM
  rw [if_pos h2, if_pos h, zup_at]
theorem turnM_76 (f : Int) (h : M 73 6 = 1) (h2 : M 73 2 < 16) : turnM f M 76 (M 73 2) = M 73 7 ∧ turnM f M 75 = M 75 := by
  unfold turnM
  rw [begM_o f (by omega), begM_o f (by omega)]
  unfold stoM
  rw [if_pos h2, if_neg (by omega), if_neg (by omega), zup_at]
  exact ⟨rfl, zup_other (by omega)⟩
theorem part_ok (hT : TR T L) (hx : Tx T L M) (hp : M 0 12 = p) (p0 : 0 ≤ p) (p1 : p ≤ L) (hw : M 0 13 = 0) (hR : Rn T (iniM W0) p.toNat W) (d0 : W 73 8 = 0) (f0 : W 73 6 = 0) (hfl : fl = 0 ∨ noFlt T (iniM W0) L) {Φ : Int → zM → Prop}
    (kw : fl = 0 → ∀ q M', Flt T (iniM W0) L q → fr M M' → M' 0 13 = 1 → M' 0 12 = q → Φ 0 M')
    (k2 : ∀ q W' M', p < q → atEnd T L W0 W q W' → W' 73 6 = 2 → fr M M' → M' 0 13 = 0 → M' 0 12 = q → (fl = 0 → Φ 0 M') ∧ (¬ fl = 0 → jM_addsBar (W' 75 (W 73 2)) (W' 76 (W 73 2)) (W' 73 7) M' Φ))
    (k3 : ∀ q W' M', p < q → atEnd T L W0 W q W' → W' 73 6 = 3 → fr M M' → M' 0 13 = 0 → M' 0 12 = q → (fl = 0 → Φ 0 M') ∧ (¬ fl = 0 → jM_addsArrow (W' 75 (W 73 2)) (W' 73 7) M' Φ)) : jM_part fl M Φ := by
  have hL := hT.1
  have hI := Rn.TI hR
  rw [show ((p.toNat : Nat) : Int) = p by omega] at hI
  have n16 : 0 ≤ W 73 2 ∧ W 73 2 < 16 := by
    obtain ⟨⟨a0, a1⟩, _⟩ := hI
    split at a1 <;> split at a1 <;> omega
  have fl0 : ∀ {q}, Flt T (iniM W0) L q → fl = 0 := fun hF => by
    rcases hfl with z | z
    · exact z
    · exact absurd hF (z _)
  unfold jM_part
  refine number_ok hT hx hp p0 p1 hw hR d0 (by rw [if_neg (by omega)]) (by rw [f0]; rfl) (fun hF r M' hf h13 h12 => ?_) (fun q W1 M1 pq ql hR1 g6 g2 go g8 hn hf h13 h12 => ?_)
  · have J : jM_part_J78 fl Φ r M' := partJ_wrong hT (hx.fr hf) h12 p0 p1 (by rw [h13]; decide) (fl0 hF) (fun M5 hf5 h135 h125 => kw (fl0 hF) p M5 hF (hf.tr hf5) h135 h125)
    exact ⟨fun _ => J, fun _ => isNext_ok hT (hx.fr hf) h12 p0 (fun z => by omega) (fun _ => ⟨fun _ => J, fun z => absurd rfl z⟩)⟩
  · have hx1 := hx.fr hf
    have f1 : W1 73 6 = 0 := g6.trans f0
    have J : ¬ (q < L ∧ T q = 64 ∧ W1 73 7 < 12) → jM_part_J78 fl Φ (W1 73 7) M1 := by
      intro hne
      unfold jM_part_J78
      refine sign_ok hT hx1 h12 (by omega) ql (fun hc r M4 _ _ hf4 h134 h124 => ?_) (fun _ q1 l1 l2 M4 hf4 h134 h124 => ?_)
      · have hF : Flt T (iniM W0) L q := by
          refine ⟨by omega, ql, W1, hR1, ?_⟩
          by_cases e : q = L
          · exact Or.inr ⟨e, fun y => by unfold goodW at y; omega⟩
          · refine Or.inl ⟨by omega, fun X y => ?_⟩
            by_cases dg : 48 ≤ T q ∧ T q ≤ 57
            · exact hn (by omega) dg.1 dg.2 X y
            · unfold TSt dgOK at y
              omega
        exact number_wrong hT (hx1.fr hf4) h124 (by omega) ql (by rw [h134]; decide) (Or.inl rfl) (fun r M5 hf5 h135 h125 => ⟨fun z => kw z q M5 hF ((hf.tr hf4).tr hf5) h135 h125, fun z => absurd (fl0 hF) z⟩)
      · have hs : TSt (T q) W1 (turnM 3 W1) := Or.inr ⟨g8, Or.inr (Or.inl ⟨by omega, f1, rfl⟩)⟩
        have hR2 := Rn.next (by omega) hR1 hs
        refine number_ok hT (hx1.fr hf4) h124 (by omega) (by omega) h134 hR2 (turnM_8 3) (by rw [turnM_6, if_neg (by omega)]) (by rw [turnM_6]; rfl) (fun hF r M5 hf5 h135 h125 => ⟨fun z => kw z _ M5 hF ((hf.tr hf4).tr hf5) h135 h125, fun z => absurd (fl0 hF) z⟩) (fun q2 W3 M5 pq2 ql2 hR3 g63 g23 go3 g83 hn3 hf5 h135 h125 => ?_)
        have e2 : W3 73 2 = W 73 2 := (g23.trans (turnM_2 3)).trans g2
        have e75 : W3 75 (W 73 2) = W1 73 7 := by
          rw [go3 75 (by omega), ← g2]
          exact turnM_75 3 f1 (by omega)
        have kk := k3 q2 W3 M5 (by omega) ⟨ql2, hR3, e2, g83, hn3⟩ (g63.trans (turnM_6 3)) ((hf.tr hf4).tr hf5) h135 h125
        rw [e75] at kk
        exact kk
    refine ⟨fun e => J (fun z => by omega), fun e => isNext_ok hT hx1 h12 (by omega) (fun _ ql1 tq => ⟨fun z => absurd z (by decide), fun _ => ⟨by omega, ?_⟩⟩) (fun hno => ⟨fun _ => J (fun z => hno ⟨h13, z.1, z.2.1⟩), fun z => absurd rfl z⟩)⟩
    rintro M13 e13
    have hs : TSt (T q) W1 (turnM 1 W1) := Or.inr ⟨g8, Or.inl ⟨tq, f1, by omega, rfl⟩⟩
    have hR2 := Rn.next (by omega) hR1 hs
    have hf13 : fr M1 M13 := by rw [e13]; exact fr.up (by omega)
    have h1313 : M13 0 13 = 0 := by rw [e13, zup_ne (by omega)]; exact h13
    have h1312 : M13 0 12 = q + 1 := by rw [e13, zup_at, h12]
    refine number_ok hT (hx1.fr hf13) h1312 (by omega) (by omega) h1313 hR2 (turnM_8 1) (by rw [turnM_6, if_neg (by omega)]) (by rw [turnM_6]; rfl) (fun hF r M5 hf5 h135 h125 => ?_) (fun q2 W3 M5 pq2 ql2 hR3 g63 g23 go3 g83 hn3 hf5 h135 h125 => ?_)
    · have hx5 := (hx1.fr hf13).fr hf5
      refine sign_ok hT hx5 h125 (by omega) (by omega) (fun _ r2 M6 _ _ hf6 h136 h126 => ?_) (fun z => by omega)
      exact number_wrong hT (hx5.fr hf6) h126 (by omega) (by omega) (by rw [h136]; decide) (Or.inr rfl) (fun r M7 hf7 h137 h127 => ⟨fun z => kw z _ M7 hF ((((hf.tr hf13).tr hf5).tr hf6).tr hf7) h137 h127, fun z => absurd (fl0 hF) z⟩)
    · have hx5 := (hx1.fr hf13).fr hf5
      have f3 : W3 73 6 = 1 := g63.trans (turnM_6 1)
      have e2 : W3 73 2 = W 73 2 := (g23.trans (turnM_2 1)).trans g2
      have e75 : W3 75 (W 73 2) = W1 73 7 := by
        rw [go3 75 (by omega), ← g2]
        exact turnM_75 1 f1 (by omega)
      refine sign_ok hT hx5 h125 (by omega) ql2 (fun hc r2 M6 _ _ hf6 h136 h126 => ?_) (fun _ ql3 l1 l2 M6 hf6 h136 h126 => ?_)
      · have hF : Flt T (iniM W0) L q2 := by
          refine ⟨by omega, ql2, W3, hR3, ?_⟩
          by_cases e : q2 = L
          · exact Or.inr ⟨e, fun y => by unfold goodW at y; omega⟩
          · refine Or.inl ⟨by omega, fun X y => ?_⟩
            by_cases dg : 48 ≤ T q2 ∧ T q2 ≤ 57
            · exact hn3 (by omega) dg.1 dg.2 X y
            · unfold TSt dgOK at y
              omega
        exact number_wrong hT (hx5.fr hf6) h126 (by omega) ql2 (by rw [h136]; decide) (Or.inr rfl) (fun r M7 hf7 h137 h127 => ⟨fun z => kw z _ M7 hF ((((hf.tr hf13).tr hf5).tr hf6).tr hf7) h137 h127, fun z => absurd (fl0 hF) z⟩)
      · have hs3 : TSt (T q2) W3 (turnM 2 W3) := Or.inr ⟨g83, Or.inr (Or.inr (Or.inl ⟨by omega, f3, rfl⟩))⟩
        have hR4 := Rn.next (by omega) hR3 hs3
        have t76 := turnM_76 (M := W3) 2 f3 (by omega)
        refine number_ok hT (hx5.fr hf6) h126 (by omega) (by omega) h136 hR4 (turnM_8 2) (by rw [turnM_6, if_pos rfl]) (by rw [turnM_6]; rfl) (fun hF r M7 hf7 h137 h127 => ⟨fun z => kw z _ M7 hF ((((hf.tr hf13).tr hf5).tr hf6).tr hf7) h137 h127, fun z => absurd (fl0 hF) z⟩) (fun q4 W5 M7 pq4 ql4 hR5 g65 g25 go5 g85 hn5 hf7 h137 h127 => ?_)
        have e25 : W5 73 2 = W 73 2 := (g25.trans (turnM_2 2)).trans e2
        have kk := k2 q4 W5 M7 (by omega) ⟨ql4, hR5, e25, g85, hn5⟩ (g65.trans (turnM_6 2)) ((((hf.tr hf13).tr hf5).tr hf6).tr hf7) h137 h127
        rw [go5 75 (by omega), t76.2, e75, go5 76 (by omega), ← e2, t76.1] at kk
        exact kk
theorem end_semi (he : atEnd T L W0 W q W') (hq : 0 ≤ q) (hf : W' 73 6 = 2 ∨ W' 73 6 = 3) (hT : TR T L) : (q = L → Gud T (iniM W0) L) ∧ (q < L → ¬ T q = 59 → Flt T (iniM W0) L q) ∧ (q < L → T q = 59 → Rn T (iniM W0) (q + 1).toNat (endM W')) := by
  obtain ⟨ql, hR, _, g8, hn⟩ := he
  refine ⟨fun e => ⟨W', by rw [← e]; exact hR, g8, hf⟩, fun e e2 => ⟨hq, ql, W', hR, Or.inl ⟨e, fun X y => ?_⟩⟩, fun e e2 => Rn.next hq hR (Or.inr ⟨g8, Or.inr (Or.inr (Or.inr ⟨e2, hf, rfl⟩))⟩)⟩
  by_cases dg : 48 ≤ T q ∧ T q ≤ 57
  · exact hn e dg.1 dg.2 X y
  · unfold TSt dgOK at y
    omega
theorem endM_8 : endM M 73 8 = 0 := begM_8 0
theorem endM_6 : endM M 73 6 = 0 := begM_6 0
theorem go0_ok (hT : TR T L) (hx : Tx T L M) {Φ : Int → zM → Prop}
    (kw : ∀ q r M', Flt T (iniM W0) L q → fr M M' → M' 0 13 = 1 → M' 0 12 = q → Φ r M')
    (kg : ∀ r M', Gud T (iniM W0) L → fr M M' → M' 0 13 = 0 → Φ r M') : jM_go 0 M Φ := by
  have hL := hT.1
  unfold jM_go
  rintro M1 e1 M2 e2
  have hf2 : fr M M2 := by rw [e2, e1]; exact (fr.up (by omega)).tr (fr.up (by omega))
  have h12 : M2 0 12 = 0 := by rw [e2, zup_ne (by omega), e1, zup_at]
  have h13 : M2 0 13 = 0 := by rw [e2, zup_at]
  refine zwh_cnt (fun (m : Nat) (v : Int × Int × zM) => fr M v.2.2 ∧ ((v.2.1 = 0 ∧ ((v.2.2 0 13 = 1 ∧ Flt T (iniM W0) L (v.2.2 0 12)) ∨ (v.2.2 0 13 = 0 ∧ Gud T (iniM W0) L))) ∨ (v.2.1 = 1 ∧ v.2.2 0 13 = 0 ∧ ∃ q W, v.2.2 0 12 = q ∧ 0 ≤ q ∧ q ≤ L ∧ m = (L - q).toNat + 1 ∧ Rn T (iniM W0) q.toNat W ∧ W 73 8 = 0 ∧ W 73 6 = 0 ∧ W 73 2 = v.1))) ?_ ((L - 0).toNat + 1) (0, 1, M2) ⟨hf2, Or.inr ⟨rfl, h13, 0, iniM W0, h12, Int.le_refl 0, hL.1, rfl, rfl, begM_8 0, begM_6 0, by show iniM W0 73 2 = 0; unfold iniM; rw [begM_2, zup_at]⟩⟩
  rintro K m ⟨n, c, M3⟩ ⟨hf3, hc⟩ hK
  have hf3 : fr M M3 := hf3
  have hx3 := hx.fr hf3
  show jM_go_L14 0 K Φ n c M3
  unfold jM_go_L14
  refine ⟨fun e => ?_, fun e => ?_⟩
  · rcases hc with ⟨_, z | z⟩ | z
    · exact kw _ n M3 z.2 hf3 z.1 rfl
    · exact kg n M3 z.2 hf3 z.1
    · have z : c = 1 := z.1
      omega
  · have hc2 : c = 1 ∧ M3 0 13 = 0 ∧ ∃ q W, M3 0 12 = q ∧ 0 ≤ q ∧ q ≤ L ∧ m = (L - q).toNat + 1 ∧ Rn T (iniM W0) q.toNat W ∧ W 73 8 = 0 ∧ W 73 6 = 0 ∧ W 73 2 = n := by
      rcases hc with z | z
      · exact absurd z.1 e
      · exact z
    obtain ⟨_, h133, p, W, h123, p0, p1, em, hR, d0, f0, en⟩ := hc2
    have hI := Rn.TI hR
    rw [show ((p.toNat : Nat) : Int) = p by omega] at hI
    have n16 : 0 ≤ n ∧ n < 16 := by
      obtain ⟨⟨a0, a1⟩, _⟩ := hI
      rw [en] at a0 a1
      split at a1 <;> split at a1 <;> omega
    have fin : ∀ q W' M', p < q → atEnd T L W0 W q W' → (W' 73 6 = 2 ∨ W' 73 6 = 3) → fr M3 M' → M' 0 13 = 0 → M' 0 12 = q → ((0 : Int) ≤ 0 → i32 (n + 1) ∧ ∀ v2_5 : Int, v2_5 = n + 1 → (¬ (M' 0 13) = 0 → jM_go_J58 0 K Φ v2_5 M') ∧ ((M' 0 13) = 0 → ((M' 0 7) ≤ (M' 0 12) → jM_go_J58 0 K Φ v2_5 M') ∧ (¬ ((M' 0 7) ≤ (M' 0 12)) → jM_go_J59 0 K Φ v2_5 1 M'))) ∧ (¬ (0 : Int) ≤ 0 → Φ 0 M') := by
      intro q W' M' pq he hf hfr h13' h12'
      have es := end_semi he (by omega) hf hT
      have hx' := hx3.fr hfr
      have hfm := hf3.tr hfr
      have ql := he.1
      refine ⟨fun _ => ⟨by omega, ?_⟩, fun z => absurd (Int.le_refl 0) z⟩
      rintro _ rfl
      rw [hx'.1, h12']
      refine ⟨fun z => absurd h13' z, fun _ => ⟨fun e => ?_, fun e => ?_⟩⟩
      · unfold jM_go_J58 jM_go_J59
        refine ⟨fun _ => hK 0 (n + 1, 0, M') ⟨hfm, Or.inl ⟨rfl, Or.inr ⟨h13', es.1 (by omega)⟩⟩⟩ (by omega), fun z => absurd rfl z⟩
      · unfold jM_go_J59
        refine ⟨fun z => absurd z (by decide), fun _ => sign_ok hT hx' h12' (by omega) ql (fun hc r M7 _ _ hf7 h137 h127 => ⟨fun _ => ?_, fun z => by omega⟩) (fun _ _ l1 l2 M7 hf7 h137 h127 => ⟨fun z => absurd h137 z, fun _ => ?_⟩)⟩
        · have hF := es.2.1 (by omega) (fun z => by omega)
          exact hK 0 (n + 1, 0, M7) ⟨hfm.tr hf7, Or.inl ⟨rfl, Or.inl ⟨h137, by show Flt T (iniM W0) L (M7 0 12); rw [h127]; exact hF⟩⟩⟩ (by omega)
        · have hR7 := es.2.2 (by omega) (by omega)
          exact hK ((L - (q + 1)).toNat + 1) (n + 1, 1, M7) ⟨hfm.tr hf7, Or.inr ⟨rfl, h137, q + 1, endM W', h127, by omega, by omega, rfl, hR7, endM_8, endM_6, by show endM W' 73 2 = n + 1; rw [endM_2, he.2.2.1, en]⟩⟩ (by omega)
    refine part_ok hT hx3 h123 p0 p1 h133 hR d0 f0 (Or.inl rfl) (fun _ q M' hF hfr h13' h12' => ?_) (fun q W' M' pq he hf hfr h13' h12' => ⟨fun _ => fin q W' M' pq he (Or.inl hf) hfr h13' h12', fun z => absurd rfl z⟩) (fun q W' M' pq he hf hfr h13' h12' => ⟨fun _ => fin q W' M' pq he (Or.inr hf) hfr h13' h12', fun z => absurd rfl z⟩)
    refine ⟨fun _ => ⟨by omega, ?_⟩, fun z => absurd (Int.le_refl 0) z⟩
    rintro _ rfl
    refine ⟨fun _ => ?_, fun z => by omega⟩
    unfold jM_go_J58 jM_go_J59
    exact ⟨fun _ => hK 0 (n + 1, 0, M') ⟨hf3.tr hfr, Or.inl ⟨rfl, Or.inl ⟨h13', by show Flt T (iniM W0) L (M' 0 12); rw [h12']; exact hF⟩⟩⟩ (by omega), fun z => absurd rfl z⟩
theorem IX.txt (hI : IX A H h fl S L T M) (hs : smT M M2) : IX A H h fl S L T M2 := hI.same (fun a ha => hs.1 a (by omega) (by omega) (by omega) (by omega)) hs.2 (hs.1 74 (by omega) (by omega) (by omega) (by omega))
theorem IM.txt (hI : IM A H h fl S L T M) (hs : fr M M2) : IM A H h fl S L T M2 := hI.same (hs.1 1 (by omega)) (hs.1 3 (by omega)) (hs.1 4 (by omega)) (hs.1 5 (by omega)) (hs.2 3 (by omega) (by omega)) (hs.2 5 (by omega) (by omega)) (hs.2 7 (by omega) (by omega))
theorem fault_pair (hp : PI B Mx Mm) : jB_fault Mx (fun r Mx' => jM_fault Mm (fun r' Mm' => r' = r ∧ PI B Mx' Mm')) := by
  obtain ⟨A, H, h, fl, S, L, T, hV, hX, hM⟩ := hp
  have hT : TR T L := hV.2.2.2.2.2
  have hx : Tx T L Mm := ⟨hM.2.2.2.2.2.1, hM.2.2.2.2.2.2⟩
  unfold jB_fault jM_fault
  refine readParts_ok hT.1 hT.2 hX.2.2.2.2.2.2.1 hX.2.2.2.2.2.2.2 (fun q hF M' hs => ?_) (fun M1 hR hg => ?_)
  · refine go0_ok (W0 := Mx) hT hx (fun q' r M2 hF' hf h13 h12 => ⟨fun z => by omega, fun _ => ?_⟩) (fun r M2 hG => absurd hG (fun z => hF.not z))
    rw [h12]
    exact ⟨hF'.uniq hF, A, H, h, fl, S, L, T, hV, hX.txt hs, hM.txt hf⟩
  · refine go0_ok (W0 := Mx) hT hx (fun q' r M2 hF' => absurd (show Gud T (iniM Mx) L from ⟨M1, hR, hg⟩) (fun z => hF'.not z)) (fun r M2 hG hf h13 => ⟨fun _ => ?_, fun z => absurd h13 z⟩)
    exact ⟨rfl, A, H, h, fl, S, L, T, hV, hX.txt ((Rn.sm hR).tr endM_sm), hM.txt hf⟩
end AC
