/-! the parts of a text added: the reference; the act -/
section AC
variable {A A' S X X' X2 : zA} {H : Int → zA} {h fl L B p q lo hi r r2 : Int} {T : Int → Int} {M M2 M3 Mm Mx Mx' W W' W0 P : zM} {b : Nat}
def fr1 (M M' : zM) : Prop := (∀ a, a ≠ 0 → a ≠ 1 → a ≠ 9 → M' a = M a) ∧ ∀ x, x ≠ 12 → x ≠ 13 → M' 0 x = M 0 x
theorem fr1.tr (h1 : fr1 M M2) (h2 : fr1 M2 M3) : fr1 M M3 := ⟨fun a a0 a1 a9 => (h2.1 a a0 a1 a9).trans (h1.1 a a0 a1 a9), fun x a c => (h2.2 x a c).trans (h1.2 x a c)⟩
theorem fr.to1 (h : fr M M2) : fr1 M M2 := ⟨fun a a0 _ _ => h.1 a a0, h.2⟩
theorem Tx.fr1 (hx : Tx T L M) (hf : fr1 M M2) : Tx T L M2 := ⟨(hf.2 7 (by omega) (by omega)).trans hx.1, fun i i0 i1 => by rw [hf.1 5 (by omega) (by omega) (by omega)]; exact hx.2 i i0 i1⟩
theorem go1_ok (hT : TR T L) (hv : Val B A) (hx : Tx T L M) (hr : RV A (M 1)) (hR0 : Rn T (iniM W0) L.toNat P) (hg : goodW P) {Φ : Int → zM → Prop}
    (ke : ∀ r M', Err (endM P) A (P 73 2 + 1) r → fr1 M M' → Φ r M')
    (kg : ∀ X M', AdL (endM P) A (P 73 2 + 1).toNat X → RV X (M' 1) → fr1 M M' → Φ (P 73 2 + 1) M') : jM_go 1 M Φ := by
  have hL := hT.1
  have hG : Gud T (iniM W0) L := ⟨P, hR0, hg⟩
  unfold jM_go
  rintro M1 e1 M2 e2
  have hf2 : fr M M2 := by rw [e2, e1]; exact (fr.up (by omega)).tr (fr.up (by omega))
  have h12 : M2 0 12 = 0 := by rw [e2, zup_ne (by omega), e1, zup_at]
  have h13 : M2 0 13 = 0 := by rw [e2, zup_at]
  refine zwh_cnt (fun (m : Nat) (v : Int × Int × zM) => fr1 M v.2.2 ∧ 0 ≤ v.1 ∧ (∃ X, AdL (endM P) A v.1.toNat X ∧ RV X (v.2.2 1)) ∧ ((v.2.1 = 0 ∧ v.1 = P 73 2 + 1) ∨ (v.2.1 = 1 ∧ v.2.2 0 13 = 0 ∧ ∃ q W, v.2.2 0 12 = q ∧ 0 ≤ q ∧ q ≤ L ∧ m = (L - q).toNat + 1 ∧ Rn T (iniM W0) q.toNat W ∧ W 73 8 = 0 ∧ W 73 6 = 0 ∧ W 73 2 = v.1))) ?_ ((L - 0).toNat + 1) (0, 1, M2) ⟨hf2.to1, Int.le_refl 0, ⟨A, rfl, by show RV A (M2 1); rw [hf2.1 1 (by omega)]; exact hr⟩, Or.inr ⟨rfl, h13, 0, iniM W0, h12, Int.le_refl 0, hL.1, rfl, rfl, begM_8 0, begM_6 0, by show iniM W0 73 2 = 0; unfold iniM; rw [begM_2, zup_at]⟩⟩
  rintro K m ⟨n, c, M3⟩ ⟨hf3, n0, ⟨X, hA, hrX⟩, hc⟩ hK
  have hf3 : fr1 M M3 := hf3
  have n0 : 0 ≤ n := n0
  have hA : AdL (endM P) A n.toNat X := hA
  have hrX : RV X (M3 1) := hrX
  have vX := AdL.val hv hA
  have hx3 := hx.fr1 hf3
  have en' : ((n.toNat : Nat) : Int) = n := by omega
  show jM_go_L14 1 K Φ n c M3
  unfold jM_go_L14
  refine ⟨fun e => ?_, fun e => ?_⟩
  · rcases hc with ⟨_, z⟩ | z
    · have z : n = P 73 2 + 1 := z
      subst z
      exact kg X M3 hA hrX hf3
    · have z : c = 1 := z.1
      omega
  · have hc2 : c = 1 ∧ M3 0 13 = 0 ∧ ∃ q W, M3 0 12 = q ∧ 0 ≤ q ∧ q ≤ L ∧ m = (L - q).toNat + 1 ∧ Rn T (iniM W0) q.toNat W ∧ W 73 8 = 0 ∧ W 73 6 = 0 ∧ W 73 2 = n := by
      rcases hc with z | z
      · exact absurd z.1 e
      · exact z
    obtain ⟨_, h133, p, W, h123, p0, p1, em, hR, d0, f0, en⟩ := hc2
    have fin : ∀ q W' M', p < q → atEnd T L W0 W q W' → (W' 73 6 = 2 ∨ W' 73 6 = 3) → fr M3 M' → M' 0 13 = 0 → M' 0 12 = q → ∀ r X' M4, StA (endM P) n X r X' → (∀ a, a ≠ 1 → a ≠ 9 → M4 a = M' a) → (0 ≤ r → RV X' (M4 1)) → ((0 : Int) ≤ r → i32 (n + 1) ∧ ∀ v2_5 : Int, v2_5 = n + 1 → (¬ (M4 0 13) = 0 → jM_go_J58 1 K Φ v2_5 M4) ∧ ((M4 0 13) = 0 → ((M4 0 7) ≤ (M4 0 12) → jM_go_J58 1 K Φ v2_5 M4) ∧ (¬ ((M4 0 7) ≤ (M4 0 12)) → jM_go_J59 1 K Φ v2_5 1 M4))) ∧ (¬ (0 : Int) ≤ r → Φ r M4) := by
      intro q W' M' pq he hf hfr h13' h12' r X' M4 hst hs4 hr4
      have es := end_semi he (by omega) hf hT
      have lk := link_ok hT he (by omega) hf hR0 hg
      rw [en] at lk
      have f04 : M4 0 = M' 0 := hs4 0 (by omega) (by omega)
      have hf4 : fr1 M3 M4 := ⟨fun a a0 a1 a9 => (hs4 a a1 a9).trans (hfr.1 a a0), fun x xa xc => by rw [f04]; exact hfr.2 x xa xc⟩
      have hx' := hx3.fr1 hf4
      have hfm := hf3.tr hf4
      have ql := he.1
      rw [f04, h13', h12', show M' 0 7 = L by rw [← f04]; exact hx'.1]
      refine ⟨fun r0 => ⟨by omega, ?_⟩, fun r0 => ke r M4 ⟨n.toNat, by omega, X, X', hA, by rw [en']; exact hst, by omega⟩ hfm⟩
      have hA' : AdL (endM P) A (n + 1).toNat X' := by
        rw [show (n + 1).toNat = n.toNat + 1 by omega]
        exact ⟨X, r, hA, by rw [en']; exact hst, r0⟩
      rintro _ rfl
      refine ⟨fun z => absurd rfl z, fun _ => ⟨fun e => ?_, fun e => ?_⟩⟩
      · unfold jM_go_J58 jM_go_J59
        refine ⟨fun _ => hK 0 (n + 1, 0, M4) ⟨hfm, by show 0 ≤ n + 1; omega, ⟨X', hA', hr4 r0⟩, Or.inl ⟨rfl, (lk.2.1 (by omega)).symm⟩⟩ (by omega), fun z => absurd rfl z⟩
      · have t59 : T q = 59 := Classical.byContradiction (fun z => (es.2.1 (by omega) z).not hG)
        unfold jM_go_J59
        refine ⟨fun z => absurd z (by decide), fun _ => sign_ok hT hx' (by rw [f04]; exact h12') (by omega) ql (fun hc r _ _ _ _ _ _ => ?_) (fun _ _ l1 l2 M7 hf7 h137 h127 => ⟨fun z => absurd h137 z, fun _ => ?_⟩)⟩
        · rw [f04, h13'] at hc
          exact False.elim (by omega)
        · have hR7 := es.2.2 (by omega) t59
          exact hK ((L - (q + 1)).toNat + 1) (n + 1, 1, M7) ⟨hfm.tr hf7.to1, by show 0 ≤ n + 1; omega, ⟨X', hA', by show RV X' (M7 1); rw [hf7.1 1 (by omega)]; exact hr4 r0⟩, Or.inr ⟨rfl, h137, q + 1, endM W', h127, by omega, by omega, rfl, hR7, endM_8, endM_6, by show endM W' 73 2 = n + 1; rw [endM_2, he.2.2.1, en]⟩⟩ (by omega)
    refine part_ok hT hx3 h123 p0 p1 h133 hR d0 f0 (Or.inr (fun q hF => hF.not hG)) (fun z => absurd z (by decide)) (fun q W' M' pq he hf hfr h13' h12' => ⟨fun z => absurd z (by decide), fun _ => ?_⟩) (fun q W' M' pq he hf hfr h13' h12' => ⟨fun z => absurd z (by decide), fun _ => ?_⟩)
    · have lk := link_ok hT he (by omega) (Or.inl hf) hR0 hg
      have l2 := lk.2.2.2.1 hf
      rw [en] at lk l2 ⊢
      have e75 := lk.2.2.1
      rw [← e75, ← l2.1, ← l2.2.1]
      have nz : ¬ endM P 77 n = 0 := by rw [l2.2.1]; exact l2.2.2
      refine addsBar_ok (A := X) (by rw [hfr.1 1 (by omega)]; exact hrX) vX (fun ho => ?_) (fun ho M4 hs4 hr4 => ?_)
      · have := okAdds_N ho
        exact fin q W' M' pq he (Or.inl hf) hfr h13' h12' _ X M' (Or.inr ⟨nz, rfl, fun z => absurd z ho, fun _ => rfl⟩) (fun _ _ _ => rfl) (fun z => by omega)
      · exact fin q W' M' pq he (Or.inl hf) hfr h13' h12' _ _ M4 (Or.inr ⟨nz, rfl, fun _ => rfl, fun z => absurd ho z⟩) (fun a a1 _ => hs4 a a1) (fun _ => hr4)
    · have lk := link_ok hT he (by omega) (Or.inr hf) hR0 hg
      have l3 := lk.2.2.2.2 hf
      rw [en] at lk l3 ⊢
      have e75 := lk.2.2.1
      rw [← e75, ← l3.1]
      refine addsArrow_ok (A := X) (by rw [hfr.1 1 (by omega)]; exact hrX) vX (fun r A1 hArr M4 hs4 hr4 => ?_)
      exact fin q W' M' pq he (Or.inr hf) hfr h13' h12' r A1 M4 (Or.inl ⟨l3.2, hArr⟩) hs4 (fun _ => hr4)
theorem addAll_pair (hp : PI B Mx Mm) : jB_addAll Mx (fun r Mx' => jM_addAll Mm (fun r' Mm' => r' = r ∧ PI B Mx' Mm')) := by
  obtain ⟨A, H, h, fl, S, L, T, hV, hX, hM⟩ := hp
  have hv := hV.1
  have hT : TR T L := hV.2.2.2.2.2
  have hx : Tx T L Mm := ⟨hM.2.2.2.2.2.1, hM.2.2.2.2.2.2⟩
  unfold jB_addAll
  refine readParts_ok hT.1 hT.2 hX.2.2.2.2.2.2.1 hX.2.2.2.2.2.2.2 (fun q hF M' hs => ⟨fun z => by have := hF.1; omega, fun _ => ⟨by have := hF.1; have := hF.2.1; have := hT.1; omega, ?_⟩⟩) (fun P hR hg => ⟨fun _ => ?_, fun z => absurd rfl z⟩)
  · unfold jM_addAll
    refine go0_ok (W0 := Mx) hT hx (fun q' r M2 hF' hf h13 h12 => ⟨fun z => by omega, fun _ => ?_⟩) (fun r M2 hG => absurd hG (fun z => hF.not z))
    have e := hF'.uniq hF
    rw [h12, e]
    exact ⟨by have := hF.1; have := hF.2.1; have := hT.1; omega, rfl, A, H, h, fl, S, L, T, hV, hX.txt hs, hM.txt hf⟩
  · have hXP : IX A H h fl S L T (endM P) := hX.txt ((Rn.sm hR).tr endM_sm)
    have hI := Rn.TI hR
    rw [show ((L.toNat : Nat) : Int) = L by have := hT.1; omega] at hI
    have p15 : 0 ≤ P 73 2 ∧ P 73 2 + 1 ≤ 15 := by
      obtain ⟨⟨a0, a1⟩, _⟩ := hI
      have hg' := hg
      unfold goodW at hg'
      rw [if_neg (by omega), if_pos hg'.1] at a1
      have := hT.1
      omega
    have ref : ∀ (Ψ : Int → zM → Prop), (∀ M2 M3 : zM, IM A H h fl S L T M2 → (∀ a, a ≠ 2 → M3 a = M2 a) → (∀ x, 0 ≤ x → x < 447 → M3 2 x = M2 1 x) → (∀ r' M5, Err (endM P) A (P 73 2 + 1) r' → fr1 M3 M5 → jM_act r' M5 Ψ) ∧ (∀ X M5, AdL (endM P) A (P 73 2 + 1).toNat X → RV X (M5 1) → fr1 M3 M5 → jM_act (P 73 2 + 1) M5 Ψ)) → jM_addAll Mm Ψ := by
      intro Ψ k
      unfold jM_addAll
      refine go0_ok (W0 := Mx) hT hx (fun q' r M2 hF' => absurd (show Gud T (iniM Mx) L from ⟨P, hR, hg⟩) (fun z => hF'.not z)) (fun r M2 hG hf h13 => ⟨fun _ => putAside_ok (fun M3 hs3 ha3 => ?_), fun z => absurd h13 z⟩)
      have hM2 := hM.txt hf
      have kk := k M2 M3 hM2 hs3 ha3
      refine go1_ok hT hv (show Tx T L M3 from ⟨by rw [hs3 0 (by omega)]; exact hM2.2.2.2.2.2.1, fun i i0 i1 => by rw [hs3 5 (by omega)]; exact hM2.2.2.2.2.2.2 i i0 i1⟩) (by rw [hs3 1 (by omega)]; exact hM2.1) hR hg (fun r' M5 hE hf5 => kk.1 r' M5 hE hf5) (fun X M5 hA hrX hf5 => kk.2 X M5 hA hrX hf5)
    have mh : ∀ M2 M3 M5 : zM, IM A H h fl S L T M2 → (∀ a, a ≠ 2 → M3 a = M2 a) → fr1 M3 M5 → IM A H h fl S L T (fun a => if a = 1 then M2 1 else M5 a) := by
      intro M2 M3 M5 hI2 hs3 hf5
      have g : ∀ a, a ≠ 0 → a ≠ 1 → a ≠ 2 → a ≠ 9 → M5 a = M2 a := fun a a0 a1 a2 a9 => (hf5.1 a a0 a1 a9).trans (hs3 a a2)
      have g0 : ∀ x, x ≠ 12 → x ≠ 13 → M5 0 x = M2 0 x := fun x xa xc => (hf5.2 x xa xc).trans (by rw [hs3 0 (by omega)])
      exact hI2.same rfl (g 3 (by omega) (by omega) (by omega) (by omega)) (g 4 (by omega) (by omega) (by omega) (by omega)) (g 5 (by omega) (by omega) (by omega) (by omega)) (g0 3 (by omega) (by omega)) (g0 5 (by omega) (by omega)) (g0 7 (by omega) (by omega))
    refine copyFrom_ok hv (Or.inr (by omega)) hXP.1 (fun M3 hs3 hc3 => ?_)
    refine addParts_ok hv (P := endM P) (n := P 73 2 + 1) (by omega) endM_2 hc3 hs3 (fun r M' hE hs' => ?_) (fun X M' hA hcX hs' => ?_)
    · have r0 : r < 0 := by obtain ⟨_, _, _, _, _, _, z⟩ := hE; exact z
      have hX' : IX A H h fl S L T M' := hXP.same (fun a ha => hs' a (by omega)) (by rw [hs' 73 (by omega)]) (hs' 74 (by omega))
      refine ref _ (fun M2 M4 hI2 hs4 ha4 => ⟨fun r' M5 hE' hf5 => ?_, fun X M5 hA' _ _ => absurd hA' (fun z => hE.not hv z)⟩)
      rw [hE'.uniq hv hE]
      exact bad_ok hV (mh M2 M4 M5 hI2 hs4 hf5) (fun q q1 _ _ => by show M5 q = if q = 1 then M2 1 else M5 q; rw [if_neg q1]) (fun x x0 x1 => by show M5 2 x = (if (1 : Nat) = 1 then M2 1 else M5 1) x; rw [if_pos rfl, hf5.1 2 (by omega) (by omega) (by omega)]; exact ha4 x x0 x1) r0 hX'
    · have hX' : IX A H h fl S L T M' := hXP.same (fun a ha => hs' a (by omega)) (by rw [hs' 73 (by omega)]) (hs' 74 (by omega))
      refine settle_ok hV hX' (AdL.val hv hA) hcX (by omega) (fun Mx' hX2 => ?_)
      refine ref _ (fun M2 M4 hI2 hs4 ha4 => ⟨fun r' M5 hE' hf5 => absurd hA (fun z => hE'.not hv z), fun X2 M5 hA' hrX hf5 => ?_⟩)
      have e := AdL.uniq hv hA' hA
      subst e
      exact fin_ok hV (mh M2 M4 M5 hI2 hs4 hf5) (fun q q1 _ _ => by show M5 q = if q = 1 then M2 1 else M5 q; rw [if_neg q1]) (fun x x0 x1 => by show M5 2 x = (if (1 : Nat) = 1 then M2 1 else M5 1) x; rw [if_pos rfl, hf5.1 2 (by omega) (by omega) (by omega)]; exact ha4 x x0 x1) hrX (AdL.val hv hA) (by omega) hX2
end AC
