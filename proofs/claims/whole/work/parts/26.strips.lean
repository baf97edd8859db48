/-! strips, on both sides -/
def NextP (A : zA) (s e : Int) : Prop := s < e ∧ e ≤ gEnd A ∧ plc A e - plc A s ≤ A 12 1 ∧ (e = gEnd A ∨ A 12 1 < plc A (e + 1) - plc A s)
def CutP (A : zA) (st : Int → Int) (n : Int) : Prop := 0 ≤ n ∧ st 0 = 0 ∧ st n = gEnd A ∧ ∀ t, 0 ≤ t → t < n → NextP A (st t) (st (t + 1))
theorem cut_mono {A : zA} {st : Int → Int} {n : Int} (h : CutP A st n) {t u : Int} (t0 : 0 ≤ t) (tu : t ≤ u) (u1 : u ≤ n) : st t + (u - t) ≤ st u := by
  obtain ⟨k, hk⟩ := Int.eq_ofNat_of_zero_le (show 0 ≤ u - t by omega)
  induction k generalizing u with
  | zero => have : u = t := by omega
            subst this; omega
  | succ k ih =>
    have := ih (u := u - 1) (by omega) (by omega) (by omega)
    have q := (h.2.2.2 (u - 1) (by omega) (by omega)).1
    rw [show u - 1 + 1 = u by omega] at q
    omega
theorem cut_rng {A : zA} {st : Int → Int} {n B : Int} (hv : Val B A) (h : CutP A st n) {t : Int} (t0 : 0 ≤ t) (t1 : t ≤ n) : t ≤ st t ∧ st t ≤ gEnd A ∧ n ≤ 200 ∧ gEnd A ≤ 200 := by
  have a := cut_mono h (Int.le_refl 0) t0 t1
  have b := cut_mono h t0 t1 (Int.le_refl n)
  have c := cut_mono h (Int.le_refl 0) h.1 (Int.le_refl n)
  have g := gEnd_rng hv
  have e0 := h.2.1
  have e1 := h.2.2.1
  omega
theorem strip_uniq {A : zA} {st : Int → Int} {n : Int} (h : CutP A st n) {d t u : Int} (t0 : 0 ≤ t) (t1 : t < n) (u0 : 0 ≤ u) (u1 : u < n) (a : st t ≤ d) (b : d < st (t + 1)) (c : st u ≤ d) (e : d < st (u + 1)) : t = u := by
  rcases Int.lt_trichotomy t u with q | q | q
  · have := cut_mono h (t := t + 1) (u := u) (by omega) (by omega) (by omega); omega
  · exact q
  · have := cut_mono h (t := u + 1) (u := t) (by omega) (by omega) (by omega); omega
theorem wid_next {A : zA} {B : Int} (hv : Val B A) {x : Int} (x0 : 0 ≤ x) (x1 : x < 200) : plc A (x + 1) - plc A x = A 11 x ∧ 1 ≤ A 11 x ∧ A 11 x ≤ 9 := by
  have := hv.wid x x0 x1
  rw [plc_s x0]; omega
def smC (M M' : zM) : Prop := ∀ a, a ≠ 85 → a ≠ 86 → M' a = M a
theorem smC.cv {A : zA} {b : Nat} {M M' : zM} (h : smC M M') (hb : zCh b) (hc : CV A M b) : CV A M' b := hc.same (fun a a0 a1 => h a (by have := hb.lt; omega) (by have := hb.lt; omega))
section RS
variable {A : zA} {M : zM} {B : Int} {b : Nat}
theorem cut_ok (hc : CV A M b) (hv : Val B A) (hb : zCh b) {Φ : zM → Prop} (h : ∀ M', smC M M' → CutP A (M' 86) (M' 85 0) → Φ M') : jK_cut b M Φ := by
  have hg := gEnd_rng hv
  have hW := hv.set1
  unfold jK_cut
  refine greatestEnd_ok hc hv ?_
  rw [show min 200 (gEnd A) = gEnd A by omega]
  rintro _ rfl
  rintro _ rfl
  refine zwh_run (fun s => 0 ≤ s.2.1 ∧ s.2.1 ≤ gEnd A ∧ smC M s.2.2 ∧ 0 ≤ s.2.2 85 0 ∧ (s.2.1 = 0 → s.2.2 85 0 = 0) ∧ (0 < s.2.1 → 1 ≤ s.2.2 85 0 ∧ s.2.2 86 0 = 0 ∧ s.2.2 86 (s.2.2 85 0 - 1) < s.2.1 ∧ 0 ≤ s.1 ∧ plc A s.2.1 - plc A (s.2.2 86 (s.2.2 85 0 - 1)) = A 12 1 - s.1) ∧ (∀ t, 0 ≤ t → t < s.2.2 85 0 → t ≤ s.2.2 86 t) ∧ ∀ t, 0 ≤ t → t < s.2.2 85 0 - 1 → NextP A (s.2.2 86 t) (s.2.2 86 (t + 1))) (fun s => (gEnd A - s.2.1).toNat) ?_ (0, 0, zup M 85 0 0) ⟨Int.le_refl 0, hg.1, fun a a1 a2 => zup_other a1, by show 0 ≤ zup M 85 0 0 85 0; rw [zup_at]; omega, fun _ => (by show zup M 85 0 0 85 0 = 0; exact zup_at _ _ _ _), fun z => by have z : (0 : Int) < 0 := z; omega, fun t t0 t1 => by have t1 : t < zup M 85 0 0 85 0 := t1; rw [zup_at] at t1; omega, fun t t0 t1 => by have t1 : t < zup M 85 0 0 85 0 - 1 := t1; rw [zup_at] at t1; omega⟩
  rintro K ⟨l, x, M1⟩ ⟨x0, x1, hs, hn, hz, hp, hid, hnx⟩ hK
  have x0 : 0 ≤ x := x0
  have x1 : x ≤ gEnd A := x1
  have hs : smC M M1 := hs
  have hn : 0 ≤ M1 85 0 := hn
  have hz : x = 0 → M1 85 0 = 0 := hz
  have hp : 0 < x → 1 ≤ M1 85 0 ∧ M1 86 0 = 0 ∧ M1 86 (M1 85 0 - 1) < x ∧ 0 ≤ l ∧ plc A x - plc A (M1 86 (M1 85 0 - 1)) = A 12 1 - l := hp
  have hid : ∀ t, 0 ≤ t → t < M1 85 0 → t ≤ M1 86 t := hid
  have hny : ∀ t, 0 ≤ t → t < M1 85 0 - 1 → NextP A (M1 86 t) (M1 86 (t + 1)) := hnx
  have hc1 := hs.cv hb hc
  have hlt : M1 85 0 ≤ x := by
    by_cases e : x = 0
    · rw [hz e, e]; omega
    · have p := hp (by omega)
      have := hid (M1 85 0 - 1) (by omega) (by omega)
      omega
  show jK_cut_L21 b K Φ (gEnd A) l x M1
  unfold jK_cut_L21
  refine ⟨fun q => ⟨by omega, by omega, ?_⟩, fun q => ?_⟩
  · rintro _ rfl
    have ex : x = gEnd A := by omega
    subst ex
    refine h _ (fun a a1 a2 => (zup_other a2).trans (hs a a1 a2)) ?_
    rw [show zup M1 86 (M1 85 0) (gEnd A) 85 = M1 85 from zup_other (by decide)]
    have keep : ∀ t, t ≠ M1 85 0 → zup M1 86 (M1 85 0) (gEnd A) 86 t = M1 86 t := fun t ht => zup_ne ht
    refine ⟨hn, ?_, zup_at _ _ _ _, fun t t0 t1 => ?_⟩
    · by_cases e : gEnd A = 0
      · rw [hz e, zup_at]; exact e
      · have p := hp (by omega)
        rw [keep 0 (by omega)]; exact p.2.1
    · rw [keep t (by omega)]
      by_cases e : t = M1 85 0 - 1
      · have p := hp (by have := hz; omega)
        rw [e, show M1 85 0 - 1 + 1 = M1 85 0 by omega, zup_at]
        exact ⟨p.2.2.1, Int.le_refl _, by omega, Or.inl rfl⟩
      · rw [keep (t + 1) (by omega)]
        exact hny t t0 (by omega)
  have w := wid_next hv x0 (show x < 200 by omega)
  have nw : (0 < x → A 12 1 < plc A (x + 1) - plc A (M1 86 (M1 85 0 - 1))) → jK_cut_J43 b K Φ (gEnd A) x M1 := by
    intro hx
    unfold jK_cut_J43
    refine ⟨by omega, by omega, ?_⟩
    rintro _ rfl
    rw [show zup M1 86 (M1 85 0) x 85 0 = M1 85 0 by rw [zup_other (by decide)]]
    refine ⟨by omega, ?_⟩
    rintro _ rfl
    have g86 : ∀ t, zup (zup M1 86 (M1 85 0) x) 85 0 (M1 85 0 + 1) 86 t = if t = M1 85 0 then x else M1 86 t := by
      intro t
      rw [zup_other (by decide)]
      by_cases e : t = M1 85 0
      · rw [if_pos e, e, zup_at]
      · rw [if_neg e, zup_ne e]
    have g85 : zup (zup M1 86 (M1 85 0) x) 85 0 (M1 85 0 + 1) 85 0 = M1 85 0 + 1 := zup_at _ _ _ _
    have gs : smC M (zup (zup M1 86 (M1 85 0) x) 85 0 (M1 85 0 + 1)) := fun a a1 a2 => ((zup_other a1).trans (zup_other a2)).trans (hs a a1 a2)
    generalize hM2 : zup (zup M1 86 (M1 85 0) x) 85 0 (M1 85 0 + 1) = M2 at g86 g85 gs ⊢
    have hc2 := gs.cv hb hc
    rintro _ rfl
    unfold jK_cut_J71
    rw [hc2.set 1 (by omega) (by omega), hc2.wid x x0 (by omega)]
    refine ⟨by omega, by omega, by omega, ?_⟩
    rintro _ rfl
    refine ⟨by omega, ?_⟩
    rintro _ rfl
    refine hK (A 12 1 - A 11 x, x + 1, M2) ⟨by show 0 ≤ x + 1; omega, by show x + 1 ≤ gEnd A; omega, gs, by show 0 ≤ M2 85 0; omega, fun z => by have z : x + 1 = 0 := z; omega, fun _ => ?_, fun t t0 t1 => ?_, fun t t0 t1 => ?_⟩ (by show (gEnd A - (x + 1)).toNat < (gEnd A - x).toNat; omega)
    · show 1 ≤ M2 85 0 ∧ M2 86 0 = 0 ∧ M2 86 (M2 85 0 - 1) < x + 1 ∧ 0 ≤ A 12 1 - A 11 x ∧ plc A (x + 1) - plc A (M2 86 (M2 85 0 - 1)) = A 12 1 - (A 12 1 - A 11 x)
      rw [g85, show M1 85 0 + 1 - 1 = M1 85 0 by omega, g86 (M1 85 0), if_pos rfl]
      refine ⟨by omega, ?_, by omega, by omega, by omega⟩
      rw [g86 0]
      by_cases e : x = 0
      · rw [hz e, if_pos rfl]; exact e
      · have p := hp (by omega)
        rw [if_neg (by omega)]; exact p.2.1
    · have t1 : t < M2 85 0 := t1
      show t ≤ M2 86 t
      rw [g86 t]
      by_cases e : t = M1 85 0
      · rw [if_pos e]; omega
      · rw [if_neg e]; exact hid t t0 (by omega)
    · have t1 : t < M2 85 0 - 1 := t1
      show NextP A (M2 86 t) (M2 86 (t + 1))
      rw [g86 t, if_neg (by omega), g86 (t + 1)]
      by_cases e : t + 1 = M1 85 0
      · rw [if_pos e, show t = M1 85 0 - 1 by omega]
        have px : 0 < x := by
          by_cases e0 : x = 0
          · have := hz e0; omega
          · omega
        have p := hp px
        exact ⟨p.2.2.1, x1, by omega, Or.inr (hx px)⟩
      · rw [if_neg e]; exact hny t t0 (by omega)
  refine ⟨fun e => nw (fun z => by omega), fun e => ?_⟩
  have p := hp (by omega)
  rw [hc1.wid x x0 (by omega)]
  refine ⟨by omega, by omega, fun q2 => ?_, fun q2 => nw (fun _ => by omega)⟩
  have pm := plc_mono hv (d := M1 86 (M1 85 0 - 1)) (e := x) (by have := hid (M1 85 0 - 1) (by omega) (by omega); omega) (by omega) (by omega)
  unfold jK_cut_J71
  rw [hc1.wid x x0 (by omega)]
  refine ⟨by omega, by omega, by omega, ?_⟩
  rintro _ rfl
  refine ⟨by omega, ?_⟩
  rintro _ rfl
  exact hK (l - A 11 x, x + 1, M1) ⟨by show 0 ≤ x + 1; omega, by show x + 1 ≤ gEnd A; omega, hs, hn, fun z => by have z : x + 1 = 0 := z; omega, fun _ => ⟨p.1, p.2.1, by show M1 86 (M1 85 0 - 1) < x + 1; omega, by show 0 ≤ l - A 11 x; omega, by show plc A (x + 1) - plc A (M1 86 (M1 85 0 - 1)) = A 12 1 - (l - A 11 x); omega⟩, hid, hnx⟩ (by show (gEnd A - (x + 1)).toNat < (gEnd A - x).toNat; omega)
theorem stripOfK_ok (hv : Val B A) {n d : Int} (hn : M 85 0 = n) (hC : CutP A (M 86) n) (d0 : 0 ≤ d) (d1 : d < gEnd A) {Φ : Int → Prop} (h : ∀ t, 0 ≤ t → t < n → M 86 t ≤ d → d < M 86 (t + 1) → Φ t) : jK_stripOf d M Φ := by
  subst hn
  have r := cut_rng hv hC hC.1 (Int.le_refl _)
  have e0 := hC.2.1
  have e1 := hC.2.2.1
  have np : 0 < M 85 0 := by
    by_cases e : M 85 0 = 0
    · rw [e] at e1; omega
    · have := hC.1; omega
  unfold jK_stripOf
  refine zwh_run (fun x => 0 ≤ x ∧ x < M 85 0 ∧ M 86 x ≤ d) (fun x => (M 85 0 - x).toNat) ?_ 0 ⟨Int.le_refl 0, np, by omega⟩
  rintro K x ⟨x0, x1, hx⟩ hK
  unfold jK_stripOf_L2
  refine ⟨by omega, fun q => h x x0 x1 hx ?_, fun q => ⟨by omega, by omega, by omega, fun q2 => h x x0 x1 hx q2, fun q2 => ⟨by omega, ?_⟩⟩⟩
  · rw [show x + 1 = M 85 0 by omega]; omega
  · rintro _ rfl
    exact hK (x + 1) ⟨by omega, by omega, by omega⟩ (by omega)
theorem stripEnd_ok (hr : RV A (M 1)) (hv : Val B A) {s e : Int} (s0 : 0 ≤ s) (hN : NextP A s e) {Φ : Int → Prop} (h : Φ e) : jM_stripEnd s M Φ := by
  have hg := gEnd_rng hv
  have hW := hv.set1
  obtain ⟨n1, n2, n3, n4⟩ := hN
  unfold jM_stripEnd
  refine greatestEndM_ok hr hv ⟨by omega, ?_⟩
  rintro _ rfl
  refine zfor1 (fun x => plc A x - plc A s ≤ A 12 1) (n := e) (by omega) (by have := wid_next hv s0 (show s < 200 by omega); omega) (fun K hI => ?_) (fun K x x0 x1 hI hK => ?_)
  · unfold jM_stripEnd_L9
    rw [show M 1 443 = A 12 1 from hr.set 1 (by omega) (by omega)]
    refine ⟨fun _ => h, fun q => ⟨by omega, widthOf_ok hr hv s0 (by omega) (by omega) ⟨fun _ => h, fun q2 => ?_⟩⟩⟩
    rcases n4 with z | z <;> omega
  · unfold jM_stripEnd_L9
    rw [show M 1 443 = A 12 1 from hr.set 1 (by omega) (by omega)]
    have m := plc_mono hv (d := x + 1) (e := e) (by omega) (by omega) (by omega)
    refine ⟨fun q => by omega, fun q => ⟨by omega, widthOf_ok hr hv s0 (by omega) (by omega) ⟨fun q2 => by omega, fun q2 => ⟨by omega, ?_⟩⟩⟩⟩
    rintro _ rfl
    exact hK (by omega)
theorem stripOfM_ok (hr : RV A (M 1)) (hv : Val B A) {st : Int → Int} {n d t : Int} (hC : CutP A st n) (t0 : 0 ≤ t) (t1 : t < n) (h0 : st t ≤ d) (h1 : d < st (t + 1)) {Φ : Int → Prop} (h : Φ t) : jM_stripOf d M Φ := by
  have r := cut_rng hv hC (t := t + 1) (by omega) (by omega)
  have e0 := hC.2.1
  unfold jM_stripOf
  refine stripEnd_ok hr hv (Int.le_refl 0) (e := st 1) (by have := hC.2.2.2 0 (by omega) (by omega); rw [e0] at this; exact this) ?_
  refine zwh_run (fun s => 0 ≤ s.1 ∧ s.1 ≤ t ∧ s.2 = st (s.1 + 1)) (fun s => (t - s.1).toNat) ?_ (0, st 1) ⟨Int.le_refl 0, t0, rfl⟩
  rintro K ⟨x, e⟩ ⟨x0, x1, he⟩ hK
  have x0 : 0 ≤ x := x0
  have x1 : x ≤ t := x1
  have he : e = st (x + 1) := he
  subst he
  show jM_stripOf_L8 d K Φ M x (st (x + 1))
  unfold jM_stripOf_L8
  refine ⟨fun q => ?_, fun q => ?_⟩
  · have : x = t := by
      by_cases e : x = t
      · exact e
      · have := cut_mono hC (t := x + 1) (u := t) (by omega) (by omega) (by omega); omega
    rw [this]; exact h
  · have xt : x < t := by
      by_cases e : x = t
      · subst e; omega
      · omega
    have r2 := cut_rng hv hC (t := x + 1) (by omega) (by omega)
    refine stripEnd_ok hr hv (by omega) (hC.2.2.2 (x + 1) (by omega) (by omega)) ⟨by omega, ?_⟩
    rintro _ rfl
    exact hK (x + 1, st (x + 1 + 1)) ⟨by show 0 ≤ x + 1; omega, by show x + 1 ≤ t; omega, rfl⟩ (by show (t - (x + 1)).toNat < (t - x).toNat; omega)
theorem strips_ok (hr : RV A (M 1)) (hv : Val B A) {st : Int → Int} {n : Int} (hC : CutP A st n) {Φ : Int → Prop} (h : Φ n) : jM_strips M Φ := by
  have hg := gEnd_rng hv
  have r := cut_rng hv hC hC.1 (Int.le_refl _)
  have e0 := hC.2.1
  have e1 := hC.2.2.1
  unfold jM_strips
  refine greatestEndM_ok hr hv ⟨fun q => greatestEndM_ok hr hv ⟨by omega, ?_⟩, fun q => ?_⟩
  · have np : 0 < n := by
      by_cases e : n = 0
      · rw [e] at e1; omega
      · have := hC.1; omega
    have nx := (hC.2.2.2 (n - 1) (by omega) (by omega)).1
    rw [show n - 1 + 1 = n by omega] at nx
    refine stripOfM_ok hr hv hC (t := n - 1) (by omega) (by omega) (by omega) (by rw [show n - 1 + 1 = n by omega]; omega) ⟨by omega, ?_⟩
    rw [show n - 1 + 1 = n by omega]; exact h
  · have : n = 0 := by have := hC.1; omega
    rw [this] at h; exact h
theorem stripStart_ok (hr : RV A (M 1)) (hv : Val B A) {st : Int → Int} {n a : Int} (hC : CutP A st n) (a0 : 0 ≤ a) (a2 : a ≤ 200) {Φ : Int → Prop} (ht : a < n → Φ (st a)) (hf : n ≤ a → Φ (-5)) : jM_stripStart a M Φ := by
  have hg := gEnd_rng hv
  have e0 := hC.2.1
  have e1 := hC.2.2.1
  have n0 := hC.1
  have out : ∀ t, 0 ≤ t → t ≤ n → t ≤ a → (t = a ∨ t = n) → jM_stripStart_J29 a Φ (st t) M := by
    intro t t0 t1 ta hta
    have r := cut_rng hv hC t0 t1
    have m := cut_mono hC t0 t1 (Int.le_refl n)
    unfold jM_stripStart_J29
    refine greatestEndM_ok hr hv ⟨fun q => hf (by omega), fun q => ?_⟩
    have tn : t < n := by
      by_cases e : t = n
      · rw [e] at q; omega
      · omega
    have : t = a := by omega
    rw [this]; exact ht (by omega)
  unfold jM_stripStart
  refine zwh_run (fun s => 0 ≤ s.2 ∧ s.2 ≤ a ∧ s.2 ≤ n ∧ s.1 = st s.2) (fun s => (a - s.2).toNat) ?_ (0, 0) ⟨Int.le_refl 0, a0, n0, e0.symm⟩
  rintro K ⟨v, x⟩ ⟨x0, x1, x2, he⟩ hK
  have x0 : 0 ≤ x := x0
  have x1 : x ≤ a := x1
  have x2 : x ≤ n := x2
  have he : v = st x := he
  subst he
  have r := cut_rng hv hC x0 x2
  have m := cut_mono hC x0 x2 (Int.le_refl n)
  show jM_stripStart_L4 a K Φ M (st x) x
  unfold jM_stripStart_L4
  refine ⟨fun q => out x x0 x2 x1 (Or.inl (by omega)), fun q => greatestEndM_ok hr hv ⟨fun q2 => out x x0 x2 x1 (Or.inr (by omega)), fun q2 => ?_⟩⟩
  have xn : x < n := by
    by_cases e : x = n
    · rw [e] at q2; omega
    · omega
  refine stripEnd_ok hr hv (by omega) (hC.2.2.2 x x0 xn) ⟨by omega, ?_⟩
  rintro _ rfl
  exact hK (st (x + 1), x + 1) ⟨by show 0 ≤ x + 1; omega, by show x + 1 ≤ a; omega, by show x + 1 ≤ n; omega, rfl⟩ (by show (a - (x + 1)).toNat < (a - x).toNat; omega)
def stripV (A : zA) (s e what : Int) : Int := if what = 0 then s else if what = 1 then e - s else if what = 2 then plc A e - plc A s else if what = 3 then shownN A s e else begunN A s e
theorem stripB_ok (hc : CV A M 0) (hv : Val B A) {idx what : Int} {Φ : Int → zM → Prop} (hbad : (idx < 0 ∨ what < 0 ∨ 4 < what) → Φ (-2) M) (hok : 0 ≤ idx → 0 ≤ what → what ≤ 4 → ∀ M', smC M M' → ∀ n, CutP A (M' 86) n → Φ (if idx < n then stripV A (M' 86 idx) (M' 86 (idx + 1)) what else -5) M') : jB_strip idx what M Φ := by
  have hb : zCh 0 := Or.inl rfl
  unfold jB_strip
  refine ⟨fun q => hbad (Or.inl q), fun q => ⟨fun q2 => hbad (Or.inr (Or.inl q2)), fun q2 => ⟨fun q3 => cut_ok hc hv hb (fun M1 hs hC => ?_), fun q3 => hbad (Or.inr (Or.inr (by omega)))⟩⟩⟩
  have hc1 := hs.cv hb hc
  have H := hok (by omega) (by omega) q3 M1 hs (M1 85 0) hC
  have n0 := hC.1
  refine ⟨fun q4 => ?_, fun q4 => by rw [if_neg q4] at H; exact H⟩
  rw [if_pos q4] at H
  have r := cut_rng hv hC (t := idx) (by omega) (by omega)
  have r2 := cut_rng hv hC (t := idx + 1) (by omega) (by omega)
  have m := cut_mono hC (t := idx) (u := idx + 1) (by omega) (by omega) (by omega)
  refine ⟨by omega, by omega, ?_⟩
  rintro _ rfl
  refine ⟨by omega, by omega, by omega, ?_⟩
  rintro _ rfl
  unfold stripV at H
  refine ⟨fun e => by rw [if_pos e] at H; exact H, fun e => ⟨fun e2 => ⟨by omega, by rw [if_neg e, if_pos e2] at H; exact H⟩, fun e2 => ⟨fun e3 => widthBetween_ok hc1 hv (by omega) (by omega) (by omega) (by rw [if_neg e, if_neg e2, if_pos e3] at H; exact H), fun e3 => ⟨fun e4 => barsShown_ok hc1 hv (by rw [if_neg e, if_neg e2, if_neg e3, if_pos e4] at H; exact H), fun e4 => barsBegun_ok hc1 hv (by rw [if_neg e, if_neg e2, if_neg e3, if_neg e4] at H; exact H)⟩⟩⟩⟩
theorem stripM_ok (hr : RV A (M 1)) (hv : Val B A) {idx what : Int} {Φ : Int → Prop} (hbad : (idx < 0 ∨ what < 0 ∨ 4 < what) → Φ (-2)) {st : Int → Int} {n : Int} (hC : CutP A st n) (h : 0 ≤ idx → 0 ≤ what → what ≤ 4 → Φ (if idx < n then stripV A (st idx) (st (idx + 1)) what else -5)) : jM_strip idx what M Φ := by
  have hn := hv.n
  have n0 := hC.1
  have rn := cut_rng hv hC n0 (Int.le_refl _)
  unfold jM_strip
  refine ⟨fun q => hbad (Or.inl q), fun q => in_ok (fun w0 w1 => ⟨fun _ => least_ok ?_, fun z => absurd z (by decide)⟩) (fun w => ⟨fun z => absurd rfl z, fun _ => hbad (by omega)⟩)⟩
  have H := h (by omega) w0 w1
  refine stripStart_ok hr hv hC (by omega) (by omega) (fun q2 => ?_) (fun q2 => ⟨fun z => absurd rfl z, fun _ => by rw [if_neg (by omega)] at H; exact H⟩)
  rw [show min idx 200 = idx by omega] at q2 ⊢
  rw [if_pos q2] at H
  have r := cut_rng hv hC (t := idx) (by omega) (by omega)
  have r2 := cut_rng hv hC (t := idx + 1) (by omega) (by omega)
  have m := cut_mono hC (t := idx) (u := idx + 1) (by omega) (by omega) (by omega)
  refine ⟨fun _ => stripEnd_ok hr hv (by omega) (hC.2.2.2 idx (by omega) q2) ?_, fun z => by omega⟩
  have key : ∀ (s e : Int), s = st idx → e = st (idx + 1) → zwh (fun K s_1 => jM_strip_L53 idx what K Φ s e M (s_1.1) (s_1.2.1) (s_1.2.2)) (0, 0, 0) := by
    intro s e hs he
    rw [← hs, ← he] at H
    refine zwh_run (fun v => 0 ≤ v.2.2 ∧ v.2.2 ≤ A 0 0 ∧ v.1 = cntA (fun j => decide (A 4 j < e ∧ s < endA A j)) v.2.2 ∧ v.2.1 = cntA (fun j => decide (s ≤ A 4 j ∧ A 4 j < e)) v.2.2) (fun v => (A 0 0 - v.2.2).toNat) ?_ (0, 0, 0) ⟨Int.le_refl 0, hn.1, rfl, rfl⟩
    rintro K ⟨p, g, x⟩ ⟨x0, x1, hp, hg⟩ hK
    have x0 : 0 ≤ x := x0
    have x1 : x ≤ A 0 0 := x1
    have hp : p = cntA (fun j => decide (A 4 j < e ∧ s < endA A j)) x := hp
    have hg : g = cntA (fun j => decide (s ≤ A 4 j ∧ A 4 j < e)) x := hg
    have rp := cntA_rng (p := fun j => decide (A 4 j < e ∧ s < endA A j)) x0
    have rg := cntA_rng (p := fun j => decide (s ≤ A 4 j ∧ A 4 j < e)) x0
    show jM_strip_L53 idx what K Φ s e M p g x
    unfold jM_strip_L53
    rw [hr.n]
    refine ⟨fun q3 => ?_, fun q3 => of2_ok hr hv x0 (by omega) ?_⟩
    · have ex : x = A 0 0 := by omega
      subst ex
      unfold stripV shownN begunN at H
      refine ⟨fun e0 => ⟨fun e1 => ⟨fun e2 => ⟨fun e3 => ?_, fun e3 => ?_⟩, fun e2 => widthOf_ok hr hv (by omega) (by omega) (by omega) ?_⟩, fun e1 => ⟨by omega, ?_⟩⟩, fun e0 => ?_⟩
      · rw [if_neg e0, if_neg e1, if_neg e2, if_neg e3] at H; rw [hg]; exact H
      · rw [if_neg e0, if_neg e1, if_neg e2, if_pos e3] at H; rw [hp]; exact H
      · rw [if_neg e0, if_neg e1, if_pos e2] at H; exact H
      · rw [if_neg e0, if_pos e1] at H; exact H
      · rw [if_pos e0] at H; exact H
    · have fin : ∀ s1, 0 ≤ s1 → s1 ≤ 1 → cntA (fun j => decide (A 4 j < e ∧ s < endA A j)) (x + 1) = p + s1 → jM_strip_J93 idx what K Φ s e g x p s1 M := by
        intro s1 l0 l1 hs1
        unfold jM_strip_J93
        refine ⟨by omega, ?_⟩
        rintro _ rfl
        refine of2_ok hr hv x0 (by omega) ⟨by omega, in_ok (fun a b => ⟨fun z => absurd z (by decide), fun _ => ⟨by omega, ?_⟩⟩) (fun a => ⟨fun _ => ⟨by omega, ?_⟩, fun z => absurd rfl z⟩)⟩
        · rintro _ rfl
          refine ⟨by omega, ?_⟩
          rintro _ rfl
          exact hK (p + s1, g + 1, x + 1) ⟨by show 0 ≤ x + 1; omega, by show x + 1 ≤ A 0 0; omega, hs1.symm, by show g + 1 = cntA _ (x + 1); rw [hg, cntA_t x0 (by rw [decide_eq_true_iff]; omega)]⟩ (by show (A 0 0 - (x + 1)).toNat < (A 0 0 - x).toNat; omega)
        · rintro _ rfl
          refine ⟨by omega, ?_⟩
          rintro _ rfl
          exact hK (p + s1, g + 0, x + 1) ⟨by show 0 ≤ x + 1; omega, by show x + 1 ≤ A 0 0; omega, hs1.symm, by show g + 0 = cntA _ (x + 1); rw [hg, cntA_f x0 (by rw [decide_eq_true_iff]; omega)]⟩ (by show (A 0 0 - (x + 1)).toNat < (A 0 0 - x).toNat; omega)
      refine ⟨fun q4 => fin 0 (by omega) (by omega) ?_, fun q4 => end_ok hr hv x0 (by omega) ⟨fun q5 => fin 0 (by omega) (by omega) ?_, fun q5 => fin 1 (by omega) (by omega) ?_⟩⟩
      · rw [hp, cntA_f x0 (by rw [decide_eq_true_iff]; omega)]
      · rw [hp, cntA_f x0 (by rw [decide_eq_true_iff]; omega)]
      · rw [hp, cntA_t x0 (by rw [decide_eq_true_iff]; omega)]
  exact key _ _ rfl rfl
end RS
