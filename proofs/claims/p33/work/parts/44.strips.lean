/-! strips, on both sides -/
def NextP (A : zA) (s e : Int) : Prop := s < e ∧ e ≤ gEnd A ∧ plc A e - plc A s ≤ A 12 1 ∧ (e = gEnd A ∨ A 12 1 < plc A (e + 1) - plc A s)
def CutP (A : zA) (st : Int → Int) (n : Int) : Prop := 0 ≤ n ∧ st 0 = 0 ∧ st n = gEnd A ∧ ∀ t, 0 ≤ t → t < n → NextP A (st t) (st (t + 1))
theorem cut_mono {A : zA} {st : Int → Int} {n : Int} (h : CutP A st n) {t u : Int} (t0 : 0 ≤ t) (tu : t ≤ u) (u1 : u ≤ n) : st t + (u - t) ≤ st u := by
  obtain ⟨k, hk⟩ := Int.eq_ofNat_of_zero_le (show 0 ≤ u - t by omega)
  induction k generalizing u with
  | zero => have : u = t := by omega
            subst this; omega
  | succ k ih =>
    have := ih (u := u - 1) (by omega) (by omega) (by omega)
    have q := (h.2.2.2 (u - 1) (by omega) (by omega)).1
    rw [show u - 1 + 1 = u by omega] at q
    omega
theorem cut_rng {A : zA} {st : Int → Int} {n B : Int} (hv : Val B A) (h : CutP A st n) {t : Int} (t0 : 0 ≤ t) (t1 : t ≤ n) : t ≤ st t ∧ st t ≤ gEnd A ∧ n ≤ 200 ∧ gEnd A ≤ 200 := by
  have a := cut_mono h (Int.le_refl 0) t0 t1
  have b := cut_mono h t0 t1 (Int.le_refl n)
  have c := cut_mono h (Int.le_refl 0) h.1 (Int.le_refl n)
  have g := gEnd_rng hv
  have e0 := h.2.1
  have e1 := h.2.2.1
  omega
theorem strip_uniq {A : zA} {st : Int → Int} {n : Int} (h : CutP A st n) {d t u : Int} (t0 : 0 ≤ t) (t1 : t < n) (u0 : 0 ≤ u) (u1 : u < n) (a : st t ≤ d) (b : d < st (t + 1)) (c : st u ≤ d) (e : d < st (u + 1)) : t = u := by
  rcases Int.lt_trichotomy t u with q | q | q
  · have := cut_mono h (t := t + 1) (u := u) (by omega) (by omega) (by omega); omega
  · exact q
  · have := cut_mono h (t := u + 1) (u := t) (by omega) (by omega) (by omega); omega
theorem wid_next {A : zA} {B : Int} (hv : Val B A) {x : Int} (x0 : 0 ≤ x) (x1 : x < 200) : plc A (x + 1) - plc A x = A 11 x ∧ 1 ≤ A 11 x ∧ A 11 x ≤ 9 := by
  have := hv.wid x x0 x1
  rw [plc_s x0]; omega
def smC (M M' : zM) : Prop := ∀ a, a ≠ 85 → a ≠ 86 → M' a = M a
theorem smC.cv {A : zA} {b : Nat} {M M' : zM} (h : smC M M') (hb : zCh b) (hc : CV A M b) : CV A M' b := hc.same (fun a a0 a1 => h a (by have := hb.lt; omega) (by have := hb.lt; omega))
section RS
variable {A : zA} {M : zM} {B : Int} {b : Nat}
theorem cut_ok (hc : CV A M b) (hv : Val B A) (hb : zCh b) {Φ : zM → Prop} (h : ∀ M', smC M M' → CutP A (M' 86) (M' 85 0) → Φ M') : jK_cut b M Φ := by
  have hg := gEnd_rng hv
  have hW := hv.set1
  unfold jK_cut
  refine greatestEnd_ok hc hv ?_
  rw [show min 200 (gEnd A) = gEnd A by omega]
  rintro _ rfl
  rintro _ rfl
  refine zwh_run (fun s => 0 ≤ s.2.1 ∧ s.2.1 ≤ gEnd A ∧ smC M s.2.2 ∧ 0 ≤ s.2.2 85 0 ∧ (s.2.1 = 0 → s.2.2 85 0 = 0) ∧ (0 < s.2.1 → 1 ≤ s.2.2 85 0 ∧ s.2.2 86 0 = 0 ∧ s.2.2 86 (s.2.2 85 0 - 1) < s.2.1 ∧ 0 ≤ s.1 ∧ plc A s.2.1 - plc A (s.2.2 86 (s.2.2 85 0 - 1)) = A 12 1 - s.1) ∧ (∀ t, 0 ≤ t → t < s.2.2 85 0 → t ≤ s.2.2 86 t) ∧ ∀ t, 0 ≤ t → t < s.2.2 85 0 - 1 → NextP A (s.2.2 86 t) (s.2.2 86 (t + 1))) (fun s => (gEnd A - s.2.1).toNat) ?_ (0, 0, zup M 85 0 0) ⟨Int.le_refl 0, hg.1, fun a a1 a2 => zup_other a1, by show 0 ≤ zup M 85 0 0 85 0; rw [zup_at]; omega, fun _ => (by show zup M 85 0 0 85 0 = 0; exact zup_at _ _ _ _), fun z => by have z : (0 : Int) < 0 := z; omega, fun t t0 t1 => by have t1 : t < zup M 85 0 0 85 0 := t1; rw [zup_at] at t1; omega, fun t t0 t1 => by have t1 : t < zup M 85 0 0 85 0 - 1 := t1; rw [zup_at] at t1; omega⟩
  rintro K ⟨l, x, M1⟩ ⟨x0, x1, hs, hn, hz, hp, hid, hnx⟩ hK
  have x0 : 0 ≤ x := x0
  have x1 : x ≤ gEnd A := x1
  have hs : smC M M1 := hs
  have hn : 0 ≤ M1 85 0 := hn
  have hz : x = 0 → M1 85 0 = 0 := hz
  have hp : 0 < x → 1 ≤ M1 85 0 ∧ M1 86 0 = 0 ∧ M1 86 (M1 85 0 - 1) < x ∧ 0 ≤ l ∧ plc A x - plc A (M1 86 (M1 85 0 - 1)) = A 12 1 - l := hp
  have hid : ∀ t, 0 ≤ t → t < M1 85 0 → t ≤ M1 86 t := hid
  have hny : ∀ t, 0 ≤ t → t < M1 85 0 - 1 → NextP A (M1 86 t) (M1 86 (t + 1)) := hnx
  have hc1 := hs.cv hb hc
  have hlt : M1 85 0 ≤ x := by
    by_cases e : x = 0
    · rw [hz e, e]; omega
    · have p := hp (by omega)
      have := hid (M1 85 0 - 1) (by omega) (by omega)
      omega
  show jK_cut_L21 b K Φ (gEnd A) l x M1
  unfold jK_cut_L21
  refine ⟨fun q => ⟨by omega, by omega, ?_⟩, fun q => ?_⟩
  · rintro _ rfl
    have ex : x = gEnd A := by omega
    subst ex
    refine h _ (fun a a1 a2 => (zup_other a2).trans (hs a a1 a2)) ?_
    rw [show zup M1 86 (M1 85 0) (gEnd A) 85 = M1 85 from zup_other (by decide)]
    have keep : ∀ t, t ≠ M1 85 0 → zup M1 86 (M1 85 0) (gEnd A) 86 t = M1 86 t := fun t ht => zup_ne ht
    refine ⟨hn, ?_, zup_at _ _ _ _, fun t t0 t1 => ?_⟩
    · by_cases e : gEnd A = 0
      · rw [hz e, zup_at]; exact e
      · have p := hp (by omega)
        rw [keep 0 (by omega)]; exact p.2.1
    · rw [keep t (by omega)]
      by_cases e : t = M1 85 0 - 1
      · have p := hp (by have := hz; omega)
        rw [e, show M1 85 0 - 1 + 1 = M1 85 0 by omega, zup_at]
        exact ⟨p.2.2.1, Int.le_refl _, by omega, Or.inl rfl⟩
      · rw [keep (t + 1) (by omega)]
        exact hny t t0 (by omega)
  have w := wid_next hv x0 (show x < 200 by omega)
  have nw : (0 < x → A 12 1 < plc A (x + 1) - plc A (M1 86 (M1 85 0 - 1))) → jK_cut_J43 b K Φ (gEnd A) x M1 := by
    intro hx
    unfold jK_cut_J43
    refine ⟨by omega, by omega, ?_⟩
    rintro _ rfl
    rw [show zup M1 86 (M1 85 0) x 85 0 = M1 85 0 by rw [zup_other (by decide)]]
    refine ⟨by omega, ?_⟩
    rintro _ rfl
    have g86 : ∀ t, zup (zup M1 86 (M1 85 0) x) 85 0 (M1 85 0 + 1) 86 t = if t = M1 85 0 then x else M1 86 t := by
      intro t
      rw [zup_other (by decide)]
      by_cases e : t = M1 85 0
      · rw [if_pos e, e, zup_at]
      · rw [if_neg e, zup_ne e]
    have g85 : zup (zup M1 86 (M1 85 0) x) 85 0 (M1 85 0 + 1) 85 0 = M1 85 0 + 1 := zup_at _ _ _ _
    have gs : smC M (zup (zup M1 86 (M1 85 0) x) 85 0 (M1 85 0 + 1)) := fun a a1 a2 => ((zup_other a1).trans (zup_other a2)).trans (hs a a1 a2)
    generalize hM2 : zup (zup M1 86 (M1 85 0) x) 85 0 (M1 85 0 + 1) = M2 at g86 g85 gs ⊢
    have hc2 := gs.cv hb hc
    rintro _ rfl
    unfold jK_cut_J71
    rw [hc2.set 1 (by omega) (by omega), hc2.wid x x0 (by omega)]
    refine ⟨by omega, by omega, by omega, ?_⟩
    rintro _ rfl
    refine ⟨by omega, ?_⟩
    rintro _ rfl
    refine hK (A 12 1 - A 11 x, x + 1, M2) ⟨by show 0 ≤ x + 1; omega, by show x + 1 ≤ gEnd A; omega, gs, by show 0 ≤ M2 85 0; omega, fun z => by have z : x + 1 = 0 := z; omega, fun _ => ?_, fun t t0 t1 => ?_, fun t t0 t1 => ?_⟩ (by show (gEnd A - (x + 1)).toNat < (gEnd A - x).toNat; omega)
    · show 1 ≤ M2 85 0 ∧ M2 86 0 = 0 ∧ M2 86 (M2 85 0 - 1) < x + 1 ∧ 0 ≤ A 12 1 - A 11 x ∧ plc A (x + 1) - plc A (M2 86 (M2 85 0 - 1)) = A 12 1 - (A 12 1 - A 11 x)
      rw [g85, show M1 85 0 + 1 - 1 = M1 85 0 by omega, g86 (M1 85 0), if_pos rfl]
      refine ⟨by omega, ?_, by omega, by omega, by omega⟩
      rw [g86 0]
      by_cases e : x = 0
      · rw [hz e, if_pos rfl]; exact e
      · have p := hp (by omega)
        rw [if_neg (by omega)]; exact p.2.1
    · have t1 : t < M2 85 0 := t1
      show t ≤ M2 86 t
      rw [g86 t]
      by_cases e : t = M1 85 0
      · rw [if_pos e]; omega
      · rw [if_neg e]; exact hid t t0 (by omega)
    · have t1 : t < M2 85 0 - 1 := t1
      show NextP A (M2 86 t) (M2 86 (t + 1))
      rw [g86 t, if_neg (by omega), g86 (t + 1)]
      by_cases e : t + 1 = M1 85 0
      · rw [if_pos e, show t = M1 85 0 - 1 by omega]
        have px : 0 < x := by
          by_cases e0 : x = 0
          · have := hz e0; omega
          · omega
        have p := hp px
        exact ⟨p.2.2.1, x1, by omega, Or.inr (hx px)⟩
      · rw [if_neg e]; exact hny t t0 (by omega)
  refine ⟨fun e => nw (fun z => by omega), fun e => ?_⟩
  have p := hp (by omega)
  rw [hc1.wid x x0 (by omega)]
  refine ⟨by omega, by omega, fun q2 => ?_, fun q2 => nw (fun _ => by omega)⟩
  have pm := plc_mono hv (d := M1 86 (M1 85 0 - 1)) (e := x) (by have := hid (M1 85 0 - 1) (by omega) (by omega); omega) (by omega) (by omega)
  unfold jK_cut_J71
  rw [hc1.wid x x0 (by omega)]
  refine ⟨by omega, by omega, by omega, ?_⟩
  rintro _ rfl
  refine ⟨by omega, ?_⟩
  rintro _ rfl
  exact hK (l - A 11 x, x + 1, M1) ⟨by show 0 ≤ x + 1; omega, by show x + 1 ≤ gEnd A; omega, hs, hn, fun z => by have z : x + 1 = 0 := z; omega, fun _ => ⟨p.1, p.2.1, by show M1 86 (M1 85 0 - 1) < x + 1; omega, by show 0 ≤ l - A 11 x; omega, by show plc A (x + 1) - plc A (M1 86 (M1 85 0 - 1)) = A 12 1 - (l - A 11 x); omega⟩, hid, hnx⟩ (by show (gEnd A - (x + 1)).toNat < (gEnd A - x).toNat; omega)
theorem stripOfK_ok (hv : Val B A) {n d : Int} (hn : M 85 0 = n) (hC : CutP A (M 86) n) (d0 : 0 ≤ d) (d1 : d < gEnd A) {Φ : Int → Prop} (h : ∀ t, 0 ≤ t → t < n → M 86 t ≤ d → d < M 86 (t + 1) → Φ t) : jK_stripOf d M Φ := by
  subst hn
  have r := cut_rng hv hC hC.1 (Int.le_refl _)
  have e0 := hC.2.1
  have e1 := hC.2.2.1
  have np : 0 < M 85 0 := by
    by_cases e : M 85 0 = 0
    · rw [e] at e1; omega
    · have := hC.1; omega
  unfold jK_stripOf
  refine zwh_run (fun x => 0 ≤ x ∧ x < M 85 0 ∧ M 86 x ≤ d) (fun x => (M 85 0 - x).toNat) ?_ 0 ⟨Int.le_refl 0, np, by omega⟩
  rintro K x ⟨x0, x1, hx⟩ hK
  unfold jK_stripOf_L2
  refine ⟨by omega, fun q => h x x0 x1 hx ?_, fun q => ⟨by omega, by omega, by omega, fun q2 => h x x0 x1 hx q2, fun q2 => ⟨by omega, ?_⟩⟩⟩
  · rw [show x + 1 = M 85 0 by omega]; omega
  · rintro _ rfl
    exact hK (x + 1) ⟨by omega, by omega, by omega⟩ (by omega)
def stripV (A : zA) (s e what : Int) : Int := if what = 0 then s else if what = 1 then e - s else if what = 2 then plc A e - plc A s else if what = 3 then shownN A s e else begunN A s e
theorem stripB_ok (hc : CV A M 0) (hv : Val B A) {idx what : Int} {Φ : Int → zM → Prop} (hbad : (idx < 0 ∨ what < 0 ∨ 4 < what) → Φ (-2) M) (hok : 0 ≤ idx → 0 ≤ what → what ≤ 4 → ∀ M', smC M M' → ∀ n, CutP A (M' 86) n → Φ (if idx < n then stripV A (M' 86 idx) (M' 86 (idx + 1)) what else -5) M') : jB_strip idx what M Φ := by
  have hb : zCh 0 := Or.inl rfl
  unfold jB_strip
  refine ⟨fun q => hbad (Or.inl q), fun q => ⟨fun q2 => hbad (Or.inr (Or.inl q2)), fun q2 => ⟨fun q3 => cut_ok hc hv hb (fun M1 hs hC => ?_), fun q3 => hbad (Or.inr (Or.inr (by omega)))⟩⟩⟩
  have hc1 := hs.cv hb hc
  have H := hok (by omega) (by omega) q3 M1 hs (M1 85 0) hC
  have n0 := hC.1
  refine ⟨fun q4 => ?_, fun q4 => by rw [if_neg q4] at H; exact H⟩
  rw [if_pos q4] at H
  have r := cut_rng hv hC (t := idx) (by omega) (by omega)
  have r2 := cut_rng hv hC (t := idx + 1) (by omega) (by omega)
  have m := cut_mono hC (t := idx) (u := idx + 1) (by omega) (by omega) (by omega)
  refine ⟨by omega, by omega, ?_⟩
  rintro _ rfl
  refine ⟨by omega, by omega, by omega, ?_⟩
  rintro _ rfl
  unfold stripV at H
  refine ⟨fun e => by rw [if_pos e] at H; exact H, fun e => ⟨fun e2 => ⟨by omega, by rw [if_neg e, if_pos e2] at H; exact H⟩, fun e2 => ⟨fun e3 => widthBetween_ok hc1 hv (by omega) (by omega) (by omega) (by rw [if_neg e, if_neg e2, if_pos e3] at H; exact H), fun e3 => ⟨fun e4 => barsShown_ok hc1 hv (by rw [if_neg e, if_neg e2, if_neg e3, if_pos e4] at H; exact H), fun e4 => barsBegun_ok hc1 hv (by rw [if_neg e, if_neg e2, if_neg e3, if_neg e4] at H; exact H)⟩⟩⟩⟩
end RS

