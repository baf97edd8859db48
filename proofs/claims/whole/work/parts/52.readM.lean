/-! the text read by the reference -/
section AC
variable {A A' S : zA} {H : Int → zA} {h fl L B p q lo hi : Int} {T : Int → Int} {M M2 M3 Mm Mx Mx' W W' W0 : zM} {b : Nat}
def TR (T : Int → Int) (L : Int) : Prop := (0 ≤ L ∧ L ≤ 60) ∧ ∀ i, 0 ≤ i → i < L → 0 ≤ T i ∧ T i < 65536
def Tx (T : Int → Int) (L : Int) (M : zM) : Prop := M 0 7 = L ∧ ∀ i, 0 ≤ i → i < L → M 5 i = T i
def fr (M M' : zM) : Prop := (∀ a, a ≠ 0 → M' a = M a) ∧ ∀ x, x ≠ 12 → x ≠ 13 → M' 0 x = M 0 x
theorem fr.rfl' : fr M M := ⟨fun _ _ => rfl, fun _ _ _ => rfl⟩
theorem fr.tr (h1 : fr M M2) (h2 : fr M2 M3) : fr M M3 := ⟨fun a ha => (h2.1 a ha).trans (h1.1 a ha), fun x a c => (h2.2 x a c).trans (h1.2 x a c)⟩
theorem fr.up {k x : Int} (hk : k = 12 ∨ k = 13) : fr M (zup M 0 k x) := ⟨fun a ha => zup_other ha, fun x a c => zup_ne (by omega)⟩
theorem Tx.fr (hx : Tx T L M) (hf : fr M M2) : Tx T L M2 := ⟨(hf.2 7 (by omega) (by omega)).trans hx.1, fun i i0 i1 => by rw [hf.1 5 (by omega)]; exact hx.2 i i0 i1⟩
theorem sign_ok (hT : TR T L) (hx : Tx T L M) (hp : M 0 12 = p) (p0 : 0 ≤ p) (p1 : p ≤ L) {Φ : Int → zM → Prop}
    (kw : (¬ M 0 13 = 0 ∨ p = L ∨ ¬ (lo ≤ T p ∧ T p ≤ hi)) → ∀ r M', 0 ≤ r → r < 65536 → fr M M' → M' 0 13 = 1 → M' 0 12 = p → Φ r M')
    (kg : M 0 13 = 0 → p < L → lo ≤ T p → T p ≤ hi → ∀ M', fr M M' → M' 0 13 = 0 → M' 0 12 = p + 1 → Φ (T p) M') : jM_sign lo hi M Φ := by
  have hL := hT.1
  have wr : ∀ r, 0 ≤ r → r < 65536 → (¬ M 0 13 = 0 ∨ p = L ∨ ¬ (lo ≤ T p ∧ T p ≤ hi)) → jM_sign_J53 lo hi Φ r M := by
    intro r r0 r1 hc
    unfold jM_sign_J53 jM_sign_J58
    refine ⟨Or.inr rfl, ?_⟩
    rintro _ rfl
    rw [zup_at, zup_ne (by omega), hp]
    refine ⟨fun z => absurd z (by decide), fun _ => ?_⟩
    unfold jM_sign_J78
    refine ⟨by omega, ?_⟩
    rintro _ rfl
    refine kw hc r _ r0 r1 ((fr.up (by omega)).tr (fr.up (by omega))) ?_ ?_
    · rw [zup_ne (by omega), zup_at]
    · rw [zup_at]; omega
  unfold jM_sign
  rw [hx.1, hp]
  refine ⟨fun e => ?_, fun e => ⟨p0, by omega, ?_⟩⟩
  · have ep : p = L := by omega
    unfold jM_sign_J24
    rw [hx.1, hp]
    exact ⟨fun z => wr 0 (by omega) (by omega) (Or.inr (Or.inl ep)), fun z => ⟨fun _ => wr 0 (by omega) (by omega) (Or.inr (Or.inl ep)), fun z2 => absurd e z2⟩⟩
  · have tp := hT.2 p p0 (by omega)
    rw [hx.2 p p0 (by omega)]
    unfold jM_sign_J24
    rw [hx.1, hp]
    refine ⟨fun z => wr _ tp.1 tp.2 (Or.inl z), fun z => ⟨fun z2 => absurd z2 e, fun _ => in_ok (fun a c => ⟨fun _ => ?_, fun z2 => absurd z2 (by decide)⟩) (fun a => ⟨fun z2 => absurd rfl z2, fun _ => wr _ tp.1 tp.2 (Or.inr (Or.inr a))⟩)⟩⟩
    unfold jM_sign_J58
    refine ⟨Or.inl rfl, ?_⟩
    rintro _ rfl
    rw [zup_at, zup_ne (by omega), hp]
    refine ⟨fun _ => ?_, fun z => absurd rfl z⟩
    unfold jM_sign_J78
    refine ⟨by omega, ?_⟩
    rintro _ rfl
    refine kg z (by omega) a c _ ((fr.up (by omega)).tr (fr.up (by omega))) ?_ ?_
    · rw [zup_ne (by omega), zup_at]
    · rw [zup_at]
theorem isNext_ok {c : Int} (hT : TR T L) (hx : Tx T L M) (hp : M 0 12 = p) (p0 : 0 ≤ p) {Φ : Int → Prop} (k1 : M 0 13 = 0 → p < L → T p = c → Φ 1) (k0 : ¬ (M 0 13 = 0 ∧ p < L ∧ T p = c) → Φ 0) : jM_isNext c M Φ := by
  have hL := hT.1
  unfold jM_isNext
  rw [hx.1, hp]
  refine ⟨fun z => k0 (fun y => z y.1), fun z => ⟨fun z2 => k0 (fun y => by omega), fun z2 => ⟨p0, by omega, ?_⟩⟩⟩
  rw [hx.2 p p0 (by omega)]
  exact ⟨fun e => k0 (fun y => e y.2.2), fun e => k1 z (by omega) e⟩
theorem number_wrong (hT : TR T L) (hx : Tx T L M) (hp : M 0 12 = p) (p0 : 0 ≤ p) (p1 : p ≤ L) (hw : ¬ M 0 13 = 0) (hlo : lo = 0 ∨ lo = 1) {Φ : Int → zM → Prop} (k : ∀ r M', fr M M' → M' 0 13 = 1 → M' 0 12 = p → Φ r M') : jM_number lo hi M Φ := by
  unfold jM_number
  refine ⟨by omega, sign_ok hT hx hp p0 p1 (fun _ r M' r0 r1 hf h13 h12 => ⟨by omega, ?_⟩) (fun z => absurd z hw)⟩
  rintro _ rfl
  refine zwh_run (fun v => v = (r - 48, M')) (fun _ => 0) ?_ _ rfl
  rintro K _ rfl _
  show jM_number_L14 lo hi K Φ (r - 48) M'
  unfold jM_number_L14
  exact ⟨fun _ => k _ M' hf h13 h12, fun _ => ⟨fun _ => k _ M' hf h13 h12, fun z => by omega⟩⟩
def noDig (T : Int → Int) (L q : Int) (W : zM) : Prop := q < L → 48 ≤ T q → T q ≤ 57 → ∀ X, ¬ TSt (T q) W X
theorem number_ok (hT : TR T L) (hx : Tx T L M) (hp : M 0 12 = p) (p0 : 0 ≤ p) (p1 : p ≤ L) (hw : M 0 13 = 0) (hR : Rn T (iniM W0) p.toNat W) (d0 : W 73 8 = 0) (hlo : lo = if W 73 6 = 2 then 1 else 0) (hhi : hi = grF (W 73 6)) {Φ : Int → zM → Prop}
    (kw : Flt T (iniM W0) L p → ∀ r M', fr M M' → M' 0 13 = 1 → M' 0 12 = p → Φ r M')
    (kg : ∀ q W' M', p < q → q ≤ L → Rn T (iniM W0) q.toNat W' → W' 73 6 = W 73 6 → W' 73 2 = W 73 2 → (∀ a, a ≠ 73 → W' a = W a) → 0 < W' 73 8 → noDig T L q W' → fr M M' → M' 0 13 = 0 → M' 0 12 = q → Φ (W' 73 7) M') : jM_number lo hi M Φ := by
  have hL := hT.1
  have hI := Rn.TI hR
  have f0 := hI.2.1
  have v0 : W 73 7 = 0 := hI.2.2.2.2.1 d0
  have lo01 : lo = 0 ∨ lo = 1 := by
    by_cases e : W 73 6 = 2
    · rw [if_pos e] at hlo; exact Or.inr hlo
    · rw [if_neg e] at hlo; exact Or.inl hlo
  have g30 : 30 ≤ grF (W 73 6) := by unfold grF; split; omega; split <;> omega
  unfold jM_number
  refine ⟨by omega, sign_ok hT hx hp p0 p1 (fun hc r M' r0 r1 hf h13 h12 => ⟨by omega, ?_⟩) (fun _ pl l1 l2 M' hf h13 h12 => ⟨by omega, ?_⟩)⟩
  · have hF : Flt T (iniM W0) L p := by
      refine ⟨p0, p1, W, hR, ?_⟩
      rcases hc with z | z | z
      · exact absurd hw z
      · exact Or.inr ⟨z, fun y => by unfold goodW at y; omega⟩
      · by_cases e : p = L
        · exact Or.inr ⟨e, fun y => by unfold goodW at y; omega⟩
        · refine Or.inl ⟨by omega, fun X y => ?_⟩
          unfold TSt dgOK at y
          by_cases e2 : W 73 6 = 2
          · rw [if_pos e2] at hlo; omega
          · rw [if_neg e2] at hlo; omega
    rintro _ rfl
    refine zwh_run (fun v => v = (r - 48, M')) (fun _ => 0) ?_ _ rfl
    rintro K _ rfl _
    show jM_number_L14 lo hi K Φ (r - 48) M'
    unfold jM_number_L14
    exact ⟨fun _ => kw hF _ M' hf h13 h12, fun _ => ⟨fun _ => kw hF _ M' hf h13 h12, fun z => by omega⟩⟩
  · have hd : dgOK (T p) W := by
      refine ⟨by omega, by omega, fun z => ?_, by omega⟩
      rw [if_pos z.1] at hlo
      omega
    rintro _ rfl
    have hR1 : Rn T (iniM W0) (p + 1).toNat (dgM (T p) W) := by
      rw [show (p + 1).toNat = p.toNat + 1 by omega]
      exact ⟨W, hR, Or.inl ⟨by rw [show ((p.toNat : Nat) : Int) = p by omega]; exact hd, by rw [show ((p.toNat : Nat) : Int) = p by omega]⟩⟩
    refine zwh_cnt (fun (m : Nat) (v : Int × zM) => ∃ q W', m = (L - q).toNat ∧ p < q ∧ q ≤ L ∧ Rn T (iniM W0) q.toNat W' ∧ W' 73 6 = W 73 6 ∧ W' 73 2 = W 73 2 ∧ (∀ a, a ≠ 73 → W' a = W a) ∧ 0 < W' 73 8 ∧ fr M v.2 ∧ v.2 0 13 = 0 ∧ v.2 0 12 = q ∧ v.1 = W' 73 7) ?_ (L - (p + 1)).toNat (T p - 48, M') ⟨p + 1, dgM (T p) W, rfl, by omega, by omega, hR1, dgM_6 _, dgM_2 _, fun a ha => dgM_o _ ha, by rw [dgM_8]; omega, hf, h13, h12, by rw [dgM_7]; show T p - 48 = _; omega⟩
    rintro K m ⟨v, M4⟩ ⟨q, W', em, pq, ql, hR4, g6, g2, go, g8, hf4, h134, h124, ev⟩ hK
    have hf4 : fr M M4 := hf4
    have h134 : M4 0 13 = 0 := h134
    have h124 : M4 0 12 = q := h124
    have ev : v = W' 73 7 := ev
    have hI4 := Rn.TI hR4
    rw [show ((q.toNat : Nat) : Int) = q by omega] at hI4
    have hx4 := hx.fr hf4
    have out : noDig T L q W' → Φ v M4 := fun hn => by rw [ev]; exact kg q W' M4 pq ql hR4 g6 g2 go g8 hn hf4 h134 h124
    show jM_number_L14 lo hi K Φ v M4
    unfold jM_number_L14
    rw [hx4.1, h124]
    refine ⟨fun e => out (fun ql c0 c1 X y => ?_), fun e => ⟨fun z => absurd h134 z, fun _ => ⟨fun e2 => out (fun ql => by omega), fun e2 => ⟨by omega, by omega, ?_⟩⟩⟩⟩
    · have := hI4.2.2.2.1
      unfold TSt dgOK at y
      omega
    · have tq := hT.2 q (by omega) (by omega)
      have vr := hI4.2.2.2.1
      rw [hx4.2 q (by omega) (by omega)]
      refine in_ok (fun c0 c1 => ⟨fun z => absurd z (by decide), fun _ => ⟨by omega, by omega, by omega, by omega, by omega, fun e3 => out (fun _ _ _ X y => ?_), fun e3 => ⟨by omega, by omega, by omega, by omega, by omega, ?_⟩⟩⟩) (fun c => ⟨fun _ => out (fun _ c0 c1 => absurd ⟨c0, c1⟩ c), fun z => absurd rfl z⟩)
      · unfold TSt dgOK at y
        rw [g6, ← hhi] at y
        omega
      · have hd : dgOK (T q) W' := ⟨⟨c0, c1⟩, by omega, by omega, by rw [g6, ← hhi]; omega⟩
        rintro _ rfl
        refine ⟨by omega, ?_⟩
        rintro _ rfl
        have hR5 : Rn T (iniM W0) (q + 1).toNat (dgM (T q) W') := by
          rw [show (q + 1).toNat = q.toNat + 1 by omega]
          exact ⟨W', hR4, Or.inl ⟨by rw [show ((q.toNat : Nat) : Int) = q by omega]; exact hd, by rw [show ((q.toNat : Nat) : Int) = q by omega]⟩⟩
        exact hK (L - (q + 1)).toNat (10 * v + T q - 48, zup M4 0 12 (q + 1)) ⟨q + 1, dgM (T q) W', rfl, by omega, by omega, hR5, (dgM_6 _).trans g6, (dgM_2 _).trans g2, fun a ha => (dgM_o _ ha).trans (go a ha), by rw [dgM_8]; omega, hf4.tr (fr.up (by omega)), by show zup M4 0 12 (q + 1) 0 13 = 0; rw [zup_ne (by omega)]; exact h134, by show zup M4 0 12 (q + 1) 0 12 = q + 1; exact zup_at _ _ _ _, by rw [dgM_7]; show 10 * v + T q - 48 = _; omega⟩ (by omega)
end AC
