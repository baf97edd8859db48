/-! the parts of a text added -/
section AC
variable {A A' S X X' X2 : zA} {H : Int → zA} {h fl L B p q lo hi r r2 : Int} {T : Int → Int} {M M2 M3 Mm Mx Mx' W W' W0 P : zM} {b : Nat}
def StA (P : zM) (k : Int) (X : zA) (r : Int) (X' : zA) : Prop := (P 77 k = 0 ∧ ArrP X (P 75 k) (P 76 k) r X') ∨ (¬ P 77 k = 0 ∧ r = addR X (P 75 k) (P 76 k) (P 77 k) ∧ (okAdds X (P 75 k) (P 76 k) (P 77 k) → X' = addA X (P 75 k) (P 76 k) (P 77 k)) ∧ (¬ okAdds X (P 75 k) (P 76 k) (P 77 k) → X' = X))
theorem StA.val {k : Int} (hv : Val B X) (h : StA P k X r X') : Val B X' := by
  rcases h with ⟨_, h⟩ | ⟨_, _, h1, h2⟩
  · exact (h.val hv).1
  · by_cases e : okAdds X (P 75 k) (P 76 k) (P 77 k)
    · rw [h1 e]; exact addA_val hv e
    · rw [h2 e]; exact hv
theorem StA.uniq {k : Int} (hv : Val B X) (h : StA P k X r X') (g : StA P k X r2 X2) : r = r2 ∧ X' = X2 := by
  rcases h with ⟨e, h⟩ | ⟨e, h0, h1, h2⟩
  · rcases g with ⟨_, g⟩ | ⟨e', _⟩
    · exact h.uniq hv g
    · exact absurd e e'
  · rcases g with ⟨e', _⟩ | ⟨_, g0, g1, g2⟩
    · exact absurd e' e
    · refine ⟨h0.trans g0.symm, ?_⟩
      by_cases z : okAdds X (P 75 k) (P 76 k) (P 77 k)
      · rw [h1 z, g1 z]
      · rw [h2 z, g2 z]
def AdL (P : zM) (A : zA) : Nat → zA → Prop
  | 0, X => X = A
  | k + 1, X' => ∃ X r, AdL P A k X ∧ StA P k X r X' ∧ 0 ≤ r
theorem AdL.val (hv : Val B A) : ∀ {k : Nat} {X : zA}, AdL P A k X → Val B X
  | 0, X, h => by rw [show X = A from h]; exact hv
  | k + 1, X, ⟨Y, r, h, s, _⟩ => s.val (AdL.val hv h)
theorem AdL.uniq (hv : Val B A) : ∀ {k : Nat} {X X2 : zA}, AdL P A k X → AdL P A k X2 → X = X2
  | 0, X, X2, h, g => by rw [show X = A from h, show X2 = A from g]
  | k + 1, X, X2, ⟨Y, r, h, s, _⟩, ⟨Y2, r2, h2, s2, _⟩ => by
    have e := AdL.uniq hv h h2
    subst e
    exact (s.uniq (AdL.val hv h) s2).2
theorem AdL.pre : ∀ {k j : Nat} {X : zA}, AdL P A k X → j < k → ∃ Y r Y', AdL P A j Y ∧ StA P j Y r Y' ∧ 0 ≤ r
  | 0, j, X, _, hj => by omega
  | k + 1, j, X, ⟨Y, r, h, s, r0⟩, hj => by
    by_cases e : j = k
    · subst e; exact ⟨Y, r, X, h, s, r0⟩
    · exact AdL.pre h (by omega)
-- the first part that is not added
def Err (P : zM) (A : zA) (n r : Int) : Prop := ∃ x : Nat, (x : Int) < n ∧ ∃ X X', AdL P A x X ∧ StA P x X r X' ∧ r < 0
theorem Err.uniq {n : Int} (hv : Val B A) (h : Err P A n r) (g : Err P A n r2) : r = r2 := by
  obtain ⟨x, x1, X, X', a, s, r0⟩ := h
  obtain ⟨y, y1, Y, Y', c, t, s0⟩ := g
  rcases Nat.lt_trichotomy x y with z | z | z
  · obtain ⟨Z, u, Z', d, v, u0⟩ := c.pre z
    have e := AdL.uniq hv a d
    subst e
    have := (s.uniq (AdL.val hv a) v).1
    omega
  · subst z
    have e := AdL.uniq hv a c
    subst e
    exact (s.uniq (AdL.val hv a) t).1
  · obtain ⟨Z, u, Z', d, v, u0⟩ := a.pre z
    have e := AdL.uniq hv c d
    subst e
    have := (t.uniq (AdL.val hv c) v).1
    omega
theorem Err.not {n : Int} (hv : Val B A) (h : Err P A n r) (g : AdL P A n.toNat X) : False := by
  obtain ⟨x, x1, Y, Y', a, s, r0⟩ := h
  obtain ⟨Z, u, Z', d, v, u0⟩ := g.pre (show x < n.toNat by omega)
  have e := AdL.uniq hv a d
  subst e
  have := (s.uniq (AdL.val hv a) v).1
  omega
theorem addParts_ok (hv : Val B A) {n : Int} (hn : 0 ≤ n ∧ n ≤ 16) (hP : P 73 2 = n) (hc : CV A M 10) (hs : ∀ a, a < 10 ∨ 20 ≤ a → M a = P a) {Φ : Int → zM → Prop} (ke : ∀ r M', Err P A n r → (∀ a, a < 10 ∨ 20 ≤ a → M' a = P a) → Φ r M') (kg : ∀ X M', AdL P A n.toNat X → CV X M' 10 → (∀ a, a < 10 ∨ 20 ≤ a → M' a = P a) → jB_settle n M' Φ) : zwh (fun K s => jB_addAll_L32 K Φ s.1 s.2) (0, M) := by
  refine zwh_cnt (fun (m : Nat) (v : Int × zM) => 0 ≤ v.1 ∧ v.1 ≤ n ∧ m = (n - v.1).toNat ∧ (∀ a, a < 10 ∨ 20 ≤ a → v.2 a = P a) ∧ ∃ X, AdL P A v.1.toNat X ∧ CV X v.2 10) ?_ (n - 0).toNat (0, M) ⟨Int.le_refl 0, hn.1, rfl, hs, A, rfl, hc⟩
  rintro K m ⟨x, M1⟩ ⟨x0, x1, em, hs1, X, hA, hcX⟩ hK
  have x0 : 0 ≤ x := x0
  have x1 : x ≤ n := x1
  have em : m = (n - x).toNat := em
  have hs1 : ∀ a, a < 10 ∨ 20 ≤ a → M1 a = P a := hs1
  have hA : AdL P A x.toNat X := hA
  have hcX : CV X M1 10 := hcX
  have vX := AdL.val hv hA
  show jB_addAll_L32 K Φ x M1
  unfold jB_addAll_L32
  rw [hs1 73 (by omega), hP]
  refine ⟨fun q => ?_, fun q => ?_⟩
  · have ex : x = n := by omega
    subst ex
    exact kg X M1 hA hcX hs1
  · unfold jB_addPart jT_isArrow
    rw [hs1 77 (by omega), hs1 75 (by omega), hs1 76 (by omega)]
    have ek : ((x.toNat : Nat) : Int) = x := by omega
    have stay : ∀ r X' M2, 0 ≤ r → StA P x X r X' → (∀ a, a < 10 ∨ 20 ≤ a → M2 a = M1 a) → CV X' M2 10 → (0 ≤ r → i32 (x + 1) ∧ ∀ v2_8 : Int, v2_8 = x + 1 → K (v2_8, M2)) ∧ (¬ (0 ≤ r) → Φ r M2) := by
      intro r X' M2 r0 hst hs2 hc2
      refine ⟨fun _ => ⟨by omega, ?_⟩, fun z => absurd r0 z⟩
      rintro _ rfl
      refine hK (n - (x + 1)).toNat (x + 1, M2) ⟨by show 0 ≤ x + 1; omega, by show x + 1 ≤ n; omega, rfl, fun a ha => (hs2 a ha).trans (hs1 a ha), X', ?_, hc2⟩ (by omega)
      show AdL P A (x + 1).toNat X'
      rw [show (x + 1).toNat = x.toNat + 1 by omega]
      exact ⟨X, r, hA, by rw [ek]; exact hst, r0⟩
    have leave : ∀ r X' M2, r < 0 → StA P x X r X' → (∀ a, a < 10 ∨ 20 ≤ a → M2 a = M1 a) → (0 ≤ r → i32 (x + 1) ∧ ∀ v2_8 : Int, v2_8 = x + 1 → K (v2_8, M2)) ∧ (¬ (0 ≤ r) → Φ r M2) := by
      intro r X' M2 r0 hst hs2
      refine ⟨fun z => by omega, fun _ => ke r M2 ⟨x.toNat, by omega, X, X', hA, by rw [ek]; exact hst, r0⟩ (fun a ha => (hs2 a ha).trans (hs1 a ha))⟩
    refine ⟨x0, by omega, fun e => ⟨fun _ => ⟨x0, by omega, x0, by omega, x0, by omega, ?_⟩, fun z => absurd rfl z⟩, fun e => ⟨fun z => absurd z (by decide), fun _ => ⟨x0, by omega, x0, by omega, ?_⟩⟩⟩
    · refine addBar_ok hcX vX (fun ho => leave _ X M1 (okAdds_N ho) (Or.inr ⟨e, rfl, fun z => absurd z ho, fun _ => rfl⟩) (fun _ _ => rfl)) (fun ho M2 hs2 hc2 => ?_)
      have hr := okAdds_R vX ho
      exact stay _ _ M2 (by omega) (Or.inr ⟨e, rfl, fun _ => rfl, fun z => absurd ho z⟩) hs2 hc2
    · refine addArrow_ok hcX vX (fun r A1 hArr M2 hs2 hc2 => ?_)
      by_cases r0 : 0 ≤ r
      · exact stay r A1 M2 r0 (Or.inl ⟨e, hArr⟩) hs2 hc2
      · exact leave r A1 M2 (by omega) (Or.inl ⟨e, hArr⟩) hs2
-- what the reader has stored
theorem stoM_ne {a : Nat} {i : Int} (hi : i ≠ M 73 2) : stoM M a i = M a i := by
  unfold stoM
  split
  · split
    · unfold zup; rw [if_neg (fun z => hi z.2)]
    · split
      · unfold zup; rw [if_neg (fun z => hi z.2)]
      · unfold zup; rw [if_neg (fun z => hi z.2)]
  · rfl
theorem zeroM_ne {a : Nat} {i : Int} (hi : i ≠ M 73 2) : zeroM M a i = M a i := by
  unfold zeroM
  split
  · unfold zup; rw [if_neg (fun z => hi z.2)]
  · rfl
theorem endM_ne {a : Nat} {i : Int} (ha : a ≠ 73) (hi : i ≠ M 73 2) : endM M a i = M a i := by
  unfold endM
  rw [begM_o 0 ha, zup_other ha, stoM_ne (by rw [zeroM_73]; exact hi), zeroM_ne hi]
theorem TSt.mono {c : Int} (hs : TSt c M M2) : M 73 2 ≤ M2 73 2 ∧ ∀ a i, a ≠ 73 → i < M 73 2 → M2 a i = M a i := by
  have tn : ∀ f, M 73 2 ≤ turnM f M 73 2 ∧ ∀ a i, a ≠ 73 → i < M 73 2 → turnM f M a i = M a i := fun f => ⟨by rw [turnM_2]; exact Int.le_refl _, fun a i ha hi => by unfold turnM; rw [begM_o f ha]; exact stoM_ne (by omega)⟩
  rcases hs with ⟨_, rfl⟩ | ⟨_, ⟨_, _, _, rfl⟩ | ⟨_, _, rfl⟩ | ⟨_, _, rfl⟩ | ⟨_, _, rfl⟩⟩
  · exact ⟨by rw [dgM_2]; exact Int.le_refl _, fun a i ha hi => by rw [dgM_o c ha]⟩
  · exact tn 1
  · exact tn 3
  · exact tn 2
  · exact ⟨by rw [endM_2]; omega, fun a i ha hi => endM_ne ha (by omega)⟩
theorem Rn.mono : ∀ {j k : Nat} {M M2 : zM}, Rn T W0 j M → Rn T W0 k M2 → j ≤ k → M 73 2 ≤ M2 73 2 ∧ ∀ a i, a ≠ 73 → i < M 73 2 → M2 a i = M a i
  | j, 0, M, M2, h, g, hj => by
    have : j = 0 := by omega
    subst this
    rw [Rn.uniq h g]
    exact ⟨Int.le_refl _, fun _ _ _ _ => rfl⟩
  | j, k + 1, M, M2, h, g, hj => by
    by_cases e : j = k + 1
    · subst e
      rw [Rn.uniq h g]
      exact ⟨Int.le_refl _, fun _ _ _ _ => rfl⟩
    · obtain ⟨N, g1, g2⟩ := g
      have h1 := Rn.mono h g1 (by omega)
      have h2 := g2.mono
      exact ⟨by omega, fun a i ha hi => (h2.2 a i ha (by omega)).trans (h1.2 a i ha hi)⟩
theorem endM_at (hn : M 73 2 < 16) (hf : M 73 6 = 2 ∨ M 73 6 = 3) : endM M 75 (M 73 2) = M 75 (M 73 2) ∧ (M 73 6 = 2 → endM M 76 (M 73 2) = M 76 (M 73 2) ∧ endM M 77 (M 73 2) = M 73 7) ∧ (M 73 6 = 3 → endM M 76 (M 73 2) = M 73 7 ∧ endM M 77 (M 73 2) = 0) := by
  unfold endM
  rw [begM_o 0 (by omega), begM_o 0 (by omega), begM_o 0 (by omega), zup_other (by omega), zup_other (by omega), zup_other (by omega)]
  unfold stoM
  rw [zeroM_73, if_pos hn]
  unfold zeroM
  by_cases e : M 73 6 = 2
  · rw [if_neg (show ¬ M 73 6 = 0 by omega), if_pos e, if_neg (show ¬ (M 73 6 = 3 ∧ M 73 2 < 16) by omega)]
    exact ⟨by rw [zup_other (by omega)], fun _ => ⟨by rw [zup_other (by omega)], zup_at _ _ _ _⟩, fun z => by omega⟩
  · rw [if_neg (show ¬ M 73 6 = 0 by omega), if_neg e, if_pos (show M 73 6 = 3 ∧ M 73 2 < 16 by omega)]
    exact ⟨by rw [zup_other (by omega), zup_other (by omega)], fun z => absurd z e, fun _ => ⟨zup_at _ _ _ _, by rw [zup_other (by omega), zup_at]⟩⟩
theorem link_ok (hT : TR T L) (he : atEnd T L W0 W q W') (hq : 0 ≤ q) (hf : W' 73 6 = 2 ∨ W' 73 6 = 3) (hR : Rn T (iniM W0) L.toNat P) (hg : goodW P) : (P 73 2 + 1 ≤ 15 ∧ 0 ≤ W 73 2 ∧ W 73 2 < P 73 2 + 1) ∧ (q = L → P 73 2 + 1 = W 73 2 + 1) ∧ endM P 75 (W 73 2) = W' 75 (W 73 2) ∧ (W' 73 6 = 2 → endM P 76 (W 73 2) = W' 76 (W 73 2) ∧ endM P 77 (W 73 2) = W' 73 7 ∧ ¬ W' 73 7 = 0) ∧ (W' 73 6 = 3 → endM P 76 (W 73 2) = W' 73 7 ∧ endM P 77 (W 73 2) = 0) := by
  have hL := hT.1
  have es := end_semi he hq hf hT
  obtain ⟨ql, hR', e2, g8, hn⟩ := he
  have hI := Rn.TI hR'
  rw [show ((q.toNat : Nat) : Int) = q by omega] at hI
  have n16 : 0 ≤ W 73 2 ∧ W 73 2 < 15 := by
    obtain ⟨⟨a0, a1⟩, _⟩ := hI
    rw [e2] at a0 a1
    rw [if_neg (by omega), if_pos g8] at a1
    omega
  have hIL := Rn.TI hR
  rw [show ((L.toNat : Nat) : Int) = L by omega] at hIL
  have p15 : P 73 2 + 1 ≤ 15 := by
    obtain ⟨⟨a0, a1⟩, _⟩ := hIL
    unfold goodW at hg
    rw [if_neg (by omega), if_pos hg.1] at a1
    omega
  have v0 := hI.2.2.2.2.2
  have ea := endM_at (M := W') (by omega) hf
  rw [e2] at ea
  by_cases e : q = L
  · subst e
    have ew := Rn.uniq hR' hR
    subst ew
    exact ⟨⟨p15, n16.1, by omega⟩, fun _ => by omega, ea.1, fun z => ⟨(ea.2.1 z).1, (ea.2.1 z).2, by have := v0 z g8; omega⟩, fun z => ea.2.2 z⟩
  · have t59 : T q = 59 := Classical.byContradiction (fun z => (es.2.1 (by omega) z).not ⟨P, hR, hg⟩)
    have hm := (es.2.2 (by omega) t59).mono hR (by omega)
    rw [endM_2, e2] at hm
    have rowP : ∀ a, a ≠ 73 → endM P a (W 73 2) = endM W' a (W 73 2) := fun a ha => (endM_ne ha (by omega)).trans (hm.2 a _ ha (by omega))
    rw [rowP 75 (by omega), rowP 76 (by omega), rowP 77 (by omega)]
    exact ⟨⟨p15, n16.1, by omega⟩, fun z => absurd z e, ea.1, fun z => ⟨(ea.2.1 z).1, (ea.2.1 z).2, by have := v0 z g8; omega⟩, fun z => ea.2.2 z⟩
end AC
