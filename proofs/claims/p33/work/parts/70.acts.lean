/-! the acts of the class alone: what they leave -/
def PX (B : Int) (M : zM) : Prop := ∃ A H h fl S L T, VS B A H h fl S L T ∧ IX A H h fl S L T M
theorem PX.up {B B' : Int} {M : zM} (hp : PX B M) (hb : B ≤ B') : PX B' M := by
  obtain ⟨A, H, h, fl, S, L, T, hV, hX⟩ := hp
  exact ⟨A, H, h, fl, S, L, T, hV.up hb, hX⟩
section AC
variable {A A' S : zA} {H : Int → zA} {h fl L B : Int} {T : Int → Int} {M M2 : zM} {b : Nat} {Φ : Int → zM → Prop}
theorem set_one (hp : PX B M) (a v : Int) (k : ∀ r M', PX B M' → Φ r M') : jB_set a v M Φ := by
  obtain ⟨A, H, h, fl, S, L, T, hV, hX⟩ := hp
  have hv := hV.1
  have back : ∀ r : Int, Φ r M := fun r => k r M ⟨_, _, _, _, _, _, _, hV, hX⟩
  unfold jB_set
  refine isSetting_ok (fun ho => ⟨fun _ => ?_, fun z => absurd z (by decide)⟩) (fun ho => ⟨fun z => absurd rfl z, fun _ => back (-2)⟩)
  have a0 : 0 ≤ a ∧ a < 2 := by unfold okSet at ho; omega
  refine ⟨a0.1, a0.2, ?_⟩
  rintro _ rfl
  have ca : M 9 a = A 12 a := hX.1.set a a0.1 a0.2
  rw [ca]
  refine ⟨fun q => ?_, fun q => back (-5)⟩
  refine copyFrom_ok hv (Or.inr (by omega)) hX.1 (fun M1 hs hc => ⟨a0.1, a0.2, ?_⟩)
  rintro _ rfl
  have hc' : CV (setA A a v) (zup M1 19 a v) 10 := by
    refine ⟨?_, ?_, ?_, ?_, ?_, fun j j0 j1 => ?_, fun j j0 j1 => ?_, fun j j0 j1 => ?_, fun j j0 j1 => ?_, fun j j0 j1 => ?_, fun j j0 j1 => ?_, fun j j0 j1 => ?_, fun j j0 j1 => ?_, fun j j0 j1 => ?_⟩
    · rw [zup_other (by omega)]; exact hc.n
    · rw [zup_other (by omega)]; exact hc.ever
    · rw [zup_other (by omega)]; exact hc.a
    · rw [zup_other (by omega)]; exact hc.aever
    · rw [zup_other (by omega)]; exact hc.slip
    · rw [zup_other (by omega)]; exact hc.num j j0 j1
    · rw [zup_other (by omega)]; exact hc.lane j j0 j1
    · rw [zup_other (by omega)]; exact hc.first j j0 j1
    · rw [zup_other (by omega)]; exact hc.days j j0 j1
    · rw [zup_other (by omega)]; exact hc.anum j j0 j1
    · rw [zup_other (by omega)]; exact hc.from j j0 j1
    · rw [zup_other (by omega)]; exact hc.to j j0 j1
    · rw [zup_other (by omega)]; exact hc.wid j j0 j1
    · show zup M1 19 a v 19 j = if j = a then v else A 12 j
      by_cases e : j = a
      · rw [if_pos e, e, zup_at]
      · rw [if_neg e, zup_ne e]; exact hc.set j j0 j1
  have sv : 0 ≤ A 12 a := by
    have s0 := hv.set0
    have s1 := hv.set1
    rcases (show a = 0 ∨ a = 1 by omega) with e | e <;> subst e <;> omega
  have hs' : ∀ q, (q < 10 ∨ 20 ≤ q) → zup M1 19 a v q = M q := fun q hq => (zup_other (by omega)).trans (hs q (by omega))
  exact settle_ok hV (hX.same (fun q hq => hs' q (by omega)) (by rw [hs' 73 (by omega)]) (hs' 74 (by omega))) (setA_val hv ho) hc' sv (fun Mx' hX' => k _ _ ⟨_, _, _, _, _, _, _, hV.push (setA_val hv ho), hX'⟩)
theorem width_one (hp : PX B M) (s e w : Int) (k : ∀ r M', PX B M' → Φ r M') : jB_width s e w M Φ := by
  obtain ⟨A, H, h, fl, S, L, T, hV, hX⟩ := hp
  have hv := hV.1
  have back : ∀ r : Int, Φ r M := fun r => k r M ⟨_, _, _, _, _, _, _, hV, hX⟩
  unfold jB_width
  refine isDay_ok (fun s0 s1 => ⟨fun z => absurd z (by decide), fun _ => isDay_ok (fun e0 e1 => ⟨fun z => absurd z (by decide), fun _ => ⟨fun q => back _, fun q => ⟨fun q2 => back _, fun q2 => ⟨fun q3 => ?_, fun q3 => back _⟩⟩⟩⟩) (fun z => ⟨fun _ => back _, fun y => absurd rfl y⟩)⟩) (fun z => ⟨fun _ => back _, fun y => absurd rfl y⟩)
  refine copyFrom_ok hv (Or.inr (by omega)) hX.1 (fun M1 hs hc => setWidths_ok hc hv s0 (by omega) e1 (fun M2 hs2 hc2 => ?_))
  have hs' : ∀ q, (q < 10 ∨ 20 ≤ q) → M2 q = M q := fun q hq => (hs2 q (by omega)).trans (hs q (by omega))
  have hX2 := hX.same (fun q hq => hs' q (by omega)) (by rw [hs' 73 (by omega)]) (hs' 74 (by omega))
  have cr : 0 ≤ widN A s (e + 1) w ∧ widN A s (e + 1) w ≤ e + 1 := cntA_rng (by omega)
  have vw := widA_val (s := s) (e := e + 1) hv (show 1 ≤ w by omega) q3
  refine ⟨fun q4 => ?_, fun q4 => ?_⟩
  · exact settle_ok hV hX2 vw hc2 cr.1 (fun Mx' hX' => k _ _ ⟨_, _, _, _, _, _, _, hV.push vw, hX'⟩)
  · exact settleBad (by omega) (k _ _ ⟨_, _, _, _, _, _, _, hV, hX2⟩)
theorem bar_one (hp : PX B M) (l f d : Int) (k : ∀ r M', PX B M' → Φ r M') : jB_bar l f d M Φ := by
  obtain ⟨A, H, h, fl, S, L, T, hV, hX⟩ := hp
  have hv := hV.1
  unfold jB_bar
  refine copyFrom_ok hv (Or.inr (by omega)) hX.1 (fun M1 hs hc => addBar_ok hc hv (fun ho => ?_) (fun ho M3 hs3 hc3 => ?_))
  · have hX1 := hX.same (M' := M1) (fun q hq => hs q (by omega)) (by rw [hs 73 (by omega)]) (hs 74 (by omega))
    exact settleBad (okAdds_N ho) (k _ _ ⟨_, _, _, _, _, _, _, hV, hX1⟩)
  · have hs' : ∀ q, (q < 10 ∨ 20 ≤ q) → M3 q = M q := fun q hq => (hs3 q (by omega)).trans (hs q (by omega))
    have rr := okAdds_R hv ho
    exact settle_ok hV (hX.same (fun q hq => hs' q (by omega)) (by rw [hs' 73 (by omega)]) (hs' 74 (by omega))) (addA_val hv ho) hc3 (by omega) (fun Mx' hX' => k _ _ ⟨_, _, _, _, _, _, _, hV.push (addA_val hv ho), hX'⟩)
theorem arrow_one (hp : PX B M) (p q : Int) (k : ∀ r M', PX B M' → Φ r M') : jB_arrow p q M Φ := by
  obtain ⟨A, H, h, fl, S, L, T, hV, hX⟩ := hp
  have hv := hV.1
  unfold jB_arrow
  refine copyFrom_ok hv (Or.inr (by omega)) hX.1 (fun M1 hs hc => addArrow_ok hc hv (fun r A1 hA M3 hs3 hc3 => ?_))
  have hs' : ∀ q, (q < 10 ∨ 20 ≤ q) → M3 q = M q := fun q hq => (hs3 q (by omega)).trans (hs q (by omega))
  have hX3 := hX.same (fun q hq => hs' q (by omega)) (by rw [hs' 73 (by omega)]) (hs' 74 (by omega))
  have vA := hA.val hv
  by_cases r0 : r < 0
  · exact settleBad r0 (k _ _ ⟨_, _, _, _, _, _, _, hV, hX3⟩)
  · exact settle_ok hV hX3 vA.1 hc3 (by omega) (fun Mx' hX' => k _ _ ⟨_, _, _, _, _, _, _, hV.push vA.1, hX'⟩)
theorem takeArrow_one (hp : PX B M) (p : Int) (k : ∀ r M', PX B M' → Φ r M') : jB_takeArrow p M Φ := by
  obtain ⟨A, H, h, fl, S, L, T, hV, hX⟩ := hp
  have hv := hV.1
  have ha := hv.a
  have back : ∀ r : Int, Φ r M := fun r => k r M ⟨_, _, _, _, _, _, _, hV, hX⟩
  unfold jB_takeArrow
  refine arrowSlotOf_ok hX.1 hv (fun k1 k0 k1' ek => ⟨fun _ => ?_, fun z => absurd k0 z⟩) (fun hn => ⟨fun z => absurd z (by decide), fun _ => back _⟩)
  have tk := hv.to k1 k0 k1'
  have nk := hv.num _ tk.1 tk.2
  refine copyFrom_ok hv (Or.inr (by omega)) hX.1 (fun M1 hs hc => ?_)
  rw [show M1 17 k1 = A 10 k1 from hc.to k1 k0 k1', show M1 11 (A 10 k1) = A 2 (A 10 k1) from hc.num _ tk.1 tk.2]
  have hn := hv.n
  refine ⟨k0, by omega, tk.1, by omega, ?_⟩
  rintro _ rfl
  refine dropArrow_ok hc hv k0 k1' (fun M3 hs3 hc3 => ?_)
  have hs' : ∀ q, (q < 10 ∨ 20 ≤ q) → M3 q = M q := fun q hq => (hs3 q (by omega)).trans (hs q (by omega))
  exact settle_ok hV (hX.same (fun q hq => hs' q (by omega)) (by rw [hs' 73 (by omega)]) (hs' 74 (by omega))) (drpA_val hv k0 k1') hc3 nk.1 (fun Mx' hX' => k _ _ ⟨_, _, _, _, _, _, _, hV.push (drpA_val hv k0 k1'), hX'⟩)
theorem takeBar_one (hp : PX B M) (p : Int) (k : ∀ r M', PX B M' → Φ r M') : jB_takeBar p M Φ := by
  obtain ⟨A, H, h, fl, S, L, T, hV, hX⟩ := hp
  have hv := hV.1
  have ha := hv.a
  have back : ∀ r : Int, Φ r M := fun r => k r M ⟨_, _, _, _, _, _, _, hV, hX⟩
  unfold jB_takeBar
  refine slotOf_ok hX.1 hv (fun s s0 s1 es => ⟨fun _ => ?_, fun z => absurd s0 z⟩) (fun hn => ⟨fun z => absurd z (by decide), fun _ => back _⟩)
  have dk := dArr_ok (s := s) (A 6 0).toNat A 0 hv (by omega) (fun k k0 k1 => by omega)
  have vd := delA_val dk.1 s0 (by rw [dk.2.2.1]; exact s1) dk.2.1
  refine copyFrom_ok hv (Or.inr (by omega)) hX.1 (fun M1 hs hc => dropBar_ok hc hv s0 s1 (fun M3 hs3 hc3 => ?_))
  have hs' : ∀ q, (q < 10 ∨ 20 ≤ q) → M3 q = M q := fun q hq => (hs3 q (by omega)).trans (hs q (by omega))
  exact settle_ok hV (hX.same (fun q hq => hs' q (by omega)) (by rw [hs' 73 (by omega)]) (hs' 74 (by omega))) vd hc3 dk.2.2.2 (fun Mx' hX' => k _ _ ⟨_, _, _, _, _, _, _, hV.push vd, hX'⟩)
theorem pack_one (hp : PX B M) (k : ∀ r M', PX B M' → Φ r M') : jB_pack M Φ := by
  obtain ⟨A, H, h, fl, S, L, T, hV, hX⟩ := hp
  have hv := hV.1
  unfold jB_pack
  refine copyFrom_ok hv (Or.inr (by omega)) hX.1 (fun M1 hs1 hc1 => sort_ok hc1 hv (Or.inr (Or.inl rfl)) (fun M2 hs2 hso => ?_))
  have hc2 : CV A M2 10 := hc1.same (fun a a0 a1 => hs2 a (by omega))
  have sx : ∀ M' : zM, (∀ a, a ≠ 12 → M' a = M2 a) → ∀ a, (a < 10 ∨ 20 ≤ a) → a < 79 → M' a = M a := fun M' hs a q1 q2 => ((hs a (by omega)).trans (hs2 a (by omega))).trans (hs1 a (by omega))
  have sI : ∀ M' : zM, (∀ a, a ≠ 12 → M' a = M2 a) → IX A H h fl S L T M' := fun M' hs => hX.same (fun a ha => sx M' hs a (by omega) (by omega)) (by rw [sx M' hs 73 (by omega) (by omega)]) (sx M' hs 74 (by omega) (by omega))
  refine packLanes_ok hc2 hv (by omega) (o := M2 79) rfl hso (fun l f f0 f1 hl hf M' hs => ?_) (fun l hl he M' hs => ?_) (fun l hl he M' hs hcp => ?_)
  · exact settleBad (by omega) (k _ _ ⟨_, _, _, _, _, _, _, hV, sI M' hs⟩)
  · exact settleBad (by omega) (k _ _ ⟨_, _, _, _, _, _, _, hV, sI M' hs⟩)
  · have vl : Val B (packA A l) := packA_val hv hso hl
    exact settle_ok hV (sI M' hs) vl hcp lanesA_rng.1 (fun Mx' hX' => k _ _ ⟨_, _, _, _, _, _, _, hV.push vl, hX'⟩)
/-! the acts whose outcome is looked at -/
def okMove (A : zA) (s l f : Int) : Prop := (0 ≤ l ∧ l < 12) ∧ (0 ≤ f ∧ f + A 5 s ≤ 200) ∧ ¬ (A 3 s = l ∧ A 4 s = f) ∧ noBar A l f (f + A 5 s) s
theorem move_one (hV : VS B A H h fl S L T) (hX : IX A H h fl S L T M) (p l f : Int) (hf : i32 f) (kb : ∀ r M', r < 0 → IX A H h fl S L T M' → (∀ s, 0 ≤ s → s < A 0 0 → A 2 s = p → ¬ okMove A s l f) → Φ r M') (k : ∀ s M', 0 ≤ s → s < A 0 0 → A 2 s = p → okMove A s l f → VS B (movA A s l f) (hsH A H h) (hsN h) fl S L T → IX (movA A s l f) (hsH A H h) (hsN h) fl S L T M' → Φ (undrA (movA A s l f)) M') : jB_move p l f M Φ := by
  have hv := hV.1
  have hn := hv.n
  unfold jB_move
  refine slotOf_ok hX.1 hv (fun s s0 s1 es => ⟨fun z => by omega, fun _ => ?_⟩) (fun hno => ⟨fun _ => kb _ _ (by omega) hX (fun s s0 s1 es => absurd es (hno s s0 s1)), fun z => absurd (by decide) z⟩)
  have ds := hv.day s s0 s1
  have back : ∀ r : Int, r < 0 → ¬ okMove A s l f → Φ r M := fun r r0 hno => kb r M r0 hX (fun s' s0' s1' es' => by rw [hv.uniq s0' s1' s0 s1 (es'.trans es.symm)]; exact hno)
  refine isLane_ok (fun l0 l1 => ⟨fun _ => isDay_ok (fun f0 f1 => ⟨fun z => absurd z (by decide), fun _ => ?_⟩) (fun z => ⟨fun _ => back _ (by omega) (fun y => by have := y.2.1; omega), fun y => absurd rfl y⟩), fun z => absurd z (by decide)⟩) (fun z => ⟨fun y => absurd rfl y, fun _ => back _ (by omega) (fun y => z y.1)⟩)
  rw [show M 4 s = A 5 s from hX.1.days s s0 s1, show M 2 s = A 3 s from hX.1.lane s s0 s1, show M 3 s = A 4 s from hX.1.first s s0 s1]
  have jj : f + A 5 s ≤ 200 → ¬ (A 3 s = l ∧ A 4 s = f) → jB_move_J83 p l f Φ s M := by
    intro q hne
    unfold jB_move_J83
    rw [show M 4 s = A 5 s from hX.1.days s s0 s1]
    refine ⟨s0, by omega, room_ok hX.1 hv (by omega) (fun nb => ⟨fun _ => ?_, fun z => absurd z (by decide)⟩) (fun nb => ⟨fun z => absurd rfl z, fun _ => back _ (by omega) (fun y => nb y.2.2.2)⟩)⟩
    refine copyFrom_ok hv (Or.inr (by omega)) hX.1 (fun M1 hs hc => ⟨s0, by omega, ?_⟩)
    rintro M15 e15
    refine ⟨s0, by omega, ?_⟩
    rintro M17 e17
    have vm := movA_val hv s0 s1 l0 l1 f0 q nb
    have cm : CV (movA A s l f) M17 10 := lfA_CV hc (fun a a2 a3 => by rw [e17, zup_other a3, e15, zup_other a2]) (fun j j0 j1 => by
      rw [e17, zup_other (by omega), e15]
      by_cases q2 : j = s
      · rw [if_pos q2, q2]; exact zup_at _ _ _ _
      · rw [if_neg q2]; exact (zup_ne q2).trans (hc.lane j j0 j1)) (fun j j0 j1 => by
      rw [e17]
      by_cases q2 : j = s
      · rw [if_pos q2, q2]; exact zup_at _ _ _ _
      · rw [if_neg q2]; exact (zup_ne q2).trans (by rw [e15, zup_other (by omega)]; exact hc.first j j0 j1))
    refine draw_ok cm vm (Or.inr (Or.inl rfl)) (fun M18 hs18 hd18 => ?_)
    have hs' : ∀ a, (a < 10 ∨ 20 ≤ a) → a < 82 → M18 a = M a := fun a q1 q2 => by rw [hs18 a (by omega) (by omega) (by omega), e17, zup_other (by omega), e15, zup_other (by omega)]; exact hs a (by omega)
    rw [hd18.2.2]
    have ur := undr_rng vm
    exact settle_ok hV (hX.same (fun a ha => hs' a (by omega) (by omega)) (by rw [hs' 73 (by omega) (by omega)]) (hs' 74 (by omega) (by omega))) vm (hs18.cv (Or.inr (Or.inl rfl)) cm) ur.1 (fun Mx' hX' => k s Mx' s0 s1 es ⟨⟨l0, l1⟩, ⟨f0, q⟩, hne, nb⟩ (hV.push vm) hX')
  exact ⟨s0, by omega, by omega, fun q => ⟨s0, by omega, fun q1 => jj q (fun z => q1 z.1), fun q1 => ⟨s0, by omega, fun q2 => jj q (fun z => q2 z.2), fun q2 => back _ (by omega) (fun y => y.2.2.1 ⟨q1, q2⟩)⟩⟩, fun q => back _ (by omega) (fun y => q y.2.1.2)⟩
def okSwap (A : zA) (p q : Int) : Prop := ((0 ≤ p ∧ p < 12) ∧ (0 ≤ q ∧ q < 12)) ∧ ¬ p = q ∧ (lanedBy A p ∨ lanedBy A q)
theorem swap_one (hV : VS B A H h fl S L T) (hX : IX A H h fl S L T M) (p q : Int) (kb : ∀ r, r < 0 → ¬ okSwap A p q → Φ r M) (k : ∀ M', okSwap A p q → VS B (swpA A p q) (hsH A H h) (hsN h) fl S L T → IX (swpA A p q) (hsH A H h) (hsN h) fl S L T M' → Φ (undrA (swpA A p q)) M') : jB_swap p q M Φ := by
  have hv := hV.1
  unfold jB_swap
  refine isLane_ok (fun p0 p1 => ⟨fun z => absurd z (by decide), fun _ => isLane_ok (fun q0 q1 => ⟨fun _ => ⟨fun e => kb _ (by omega) (fun z => z.2.1 e), fun e => ?_⟩, fun z => absurd z (by decide)⟩) (fun z => ⟨fun y => absurd rfl y, fun _ => kb _ (by omega) (fun y => z y.1.2)⟩)⟩) (fun z => ⟨fun _ => kb _ (by omega) (fun y => z y.1.1), fun y => absurd rfl y⟩)
  have pq : (0 ≤ p ∧ p < 12) ∧ (0 ≤ q ∧ q < 12) := ⟨⟨p0, p1⟩, ⟨q0, q1⟩⟩
  have go : (lanedBy A p ∨ lanedBy A q) → jB_swap_J46 p q Φ M := by
    intro hl
    unfold jB_swap_J46
    refine copyFrom_ok hv (Or.inr (by omega)) hX.1 (fun M7 hs hc => exchangeLanes_ok hc hv (fun M8 hs8 hc8 => ?_))
    have vm := swpA_val hv pq.1 pq.2
    refine draw_ok hc8 vm (Or.inr (Or.inl rfl)) (fun M18 hs18 hd18 => ?_)
    have hs' : ∀ a, (a < 10 ∨ 20 ≤ a) → a < 82 → M18 a = M a := fun a q1 q2 => by rw [hs18 a (by omega) (by omega) (by omega), hs8 a (by omega)]; exact hs a (by omega)
    rw [hd18.2.2]
    have ur := undr_rng vm
    exact settle_ok hV (hX.same (fun a ha => hs' a (by omega) (by omega)) (by rw [hs' 73 (by omega) (by omega)]) (hs' 74 (by omega) (by omega))) vm (hs18.cv (Or.inr (Or.inl rfl)) hc8) ur.1 (fun Mx' hX' => k Mx' ⟨pq, e, hl⟩ (hV.push vm) hX')
  exact hasBars_ok hX.1 hv (fun hl => ⟨fun _ => go (Or.inl hl), fun z => absurd z (by decide)⟩) (fun hl => ⟨fun z => absurd rfl z, fun _ => hasBars_ok hX.1 hv (fun hl2 => ⟨fun _ => go (Or.inr hl2), fun z => absurd z (by decide)⟩) (fun hl2 => ⟨fun z => absurd rfl z, fun _ => kb _ (by omega) (fun z => by rcases z.2.2 with z | z; exact hl z; exact hl2 z)⟩)⟩)
theorem undo_one (hV : VS B A H h fl S L T) (hX : IX A H h fl S L T M) (k0 : h = 0 → Φ (-5) M) (k : 0 < h → ∀ M', VS B (H (h - 1)) H (h - 1) fl S L T → IX (H (h - 1)) H (h - 1) fl S L T M' → Φ (h - 1) M') : jB_undo M Φ :=
  undoB_ok hV hX k0 (fun h0 Mx' hX' => k h0 Mx' ⟨hV.2.2.1 (h - 1) (by omega) (by omega), ⟨by omega, by have := hV.2.1; omega⟩, fun i i0 i1 => hV.2.2.1 i i0 (by omega), hV.2.2.2⟩ hX')
theorem slip_one (hB : B ≤ 2000000000) (hV : VS B A H h fl S L T) (hX : IX A H h fl S L T M) (p d : Int) (kb : ∀ r M', r < 0 → IX A H h fl S L T M' → (∀ s, 0 ≤ s → s < A 0 0 → A 2 s = p → 1 ≤ d → d ≤ 30 → r = -4 ∧ ∃ D, SlipP A s d D ∧ ¬ mxI (fun j => D j + A 5 j) (A 0 0) ≤ 200) → Φ r M') (k : ∀ s D M', 0 ≤ s → s < A 0 0 → A 2 s = p → 1 ≤ d → d ≤ 30 → SlipP A s d D → mxI (fun j => D j + A 5 j) (A 0 0) ≤ 200 → VS (B + 6000) (slipA A D) (hsH A H h) (hsN h) fl S L T → IX (slipA A D) (hsH A H h) (hsN h) fl S L T M' → Φ (movedN A D) M') : jB_slip p d M Φ := by
  have hv := hV.1
  have hn := hv.n
  have hVu := hV.up (show B ≤ B + 6000 by omega)
  unfold jB_slip
  refine slotOf_ok hX.1 hv (fun s s0 s1 es => ⟨fun _ => ?_, fun z => absurd s0 z⟩) (fun hno => ⟨fun z => absurd z (by decide), fun _ => kb _ M (by omega) hX (fun s s0 s1 es => absurd es (hno s s0 s1))⟩)
  refine ⟨fun q => kb _ M (by omega) hX (fun _ _ _ _ z => by omega), fun q => ⟨fun q2 => ?_, fun q2 => kb _ M (by omega) hX (fun _ _ _ _ _ z => by omega)⟩⟩
  refine read_ok hX.1 hv (Or.inl rfl) (fun M3 hs3 ho3 hp3 => slipFrom_ok (hs3.cv (Or.inl rfl) hX.1) hv (Or.inl rfl) ho3 hp3 (show 0 ≤ d by omega) q2 (fun M5 hs5 hD => ?_))
  have hs35 : ∀ a, a < 79 → M5 a = M a := fun a ha => (hs5 a (by omega)).trans (hs3 a (by omega) (by omega) (by omega))
  have hX5 := hX.scr (M2 := M5) (fun a ha => hs35 a (by omega))
  refine ⟨fun q3 => ?_, fun q3 => kb _ M5 (by omega) hX5 (fun s' s0' s1' es' _ _ => ⟨rfl, M5 81, by rw [hv.uniq s0' s1' s0 s1 (es'.trans es.symm)]; exact hD, q3⟩)⟩
  refine copyFrom_ok hv (Or.inr (by omega)) hX5.1 (fun M6 hs6 hc6 => ?_)
  have g81 : M6 81 = M5 81 := hs6 81 (by omega)
  refine slipTo_ok hc6 hv (by omega) hB (show 0 ≤ d by omega) (by rw [g81]; exact hD) (fun M8 hs8 hc8 => ?_)
  rw [g81] at hc8 ⊢
  have vm := slipA_val hv (show 0 ≤ d by omega) hD q3
  have hs' : ∀ a, (a < 10 ∨ 20 ≤ a) → M8 a = M5 a := fun a q1 => (hs8 a (by omega)).trans (hs6 a (by omega))
  exact settle_ok hVu (hX5.same (fun a ha => hs' a (by omega)) (by rw [hs' 73 (by omega)]) (hs' 74 (by omega))) vm hc8 (movedN_nn hv _) (fun Mx' hX' => k s (M5 81) Mx' s0 s1 es (by omega) q2 hD q3 (hVu.push vm) hX')
theorem ifSlipped_one (hV : VS B A H h fl S L T) (hX : IX A H h fl S L T M) {s d : Int} (s0 : 0 ≤ s) (s1 : s < A 0 0) (d0 : 1 ≤ d) (d1 : d ≤ 30) (k : ∀ D M', SlipP A s d D → IX A H h fl S L T M' → Φ (mxI (fun j => D j + A 5 j) (A 0 0)) M') : jB_ifSlipped (A 2 s) d M Φ := by
  have hv := hV.1
  unfold jB_ifSlipped
  refine slotOf_ok hX.1 hv (fun s' s0' s1' es => ⟨fun _ => ?_, fun z => absurd s0' z⟩) (fun hno => absurd rfl (hno s s0 s1))
  rw [hv.uniq s0' s1' s0 s1 es]
  refine ⟨fun q => by omega, fun q => ⟨fun q2 => ?_, fun q2 => by omega⟩⟩
  exact read_ok hX.1 hv (Or.inl rfl) (fun M3 hs3 ho3 hp3 => slipFrom_ok (hs3.cv (Or.inl rfl) hX.1) hv (Or.inl rfl) ho3 hp3 (show 0 ≤ d by omega) q2 (fun M5 hs5 hD => k _ M5 hD (hX.scr (fun a ha => (hs5 a (by omega)).trans (hs3 a (by omega) (by omega) (by omega))))))
noncomputable def pulA (A : zA) (s : Int) : zA := lfA A (A 3) (fun j => if j = s then earA A s else A 4 j)
theorem pulA_val (hv : Val B A) {s : Int} (s0 : 0 ≤ s) (s1 : s < A 0 0) : Val B (pulA A s) := by
  have er := ear_rng hv s0 s1
  have pe : ∀ j, 0 ≤ j → j < A 0 0 → pushP A j s → endA A j ≤ earA A s := fun j j0 j1 hj => by have := mxI_ub (f := earF A s) j0 j1; rw [earF_t hj] at this; exact this
  refine lfA_val hv (fun j j0 j1 => hv.lane j j0 j1) (fun j j0 j1 => ?_) (fun i j i0 i1 j0 j1 ij e => ?_)
  · have dj := hv.day j j0 j1
    by_cases q : j = s
    · simp only [if_pos q]; subst q; omega
    · simp only [if_neg q]; omega
  · have ap := hv.apart i j i0 i1 j0 j1 ij e
    have di := hv.day i i0 i1
    have dj := hv.day j j0 j1
    by_cases q : i = s
    · have q2 : ¬ j = s := by omega
      simp only [if_pos q, if_neg q2]
      subst q
      rcases ap with z | z
      · exact Or.inl (by omega)
      · exact Or.inr (by have := pe j j0 j1 (Or.inl ⟨e.symm, by omega⟩); unfold endA at this; exact this)
    · by_cases q2 : j = s
      · simp only [if_neg q, if_pos q2]
        subst q2
        rcases ap with z | z
        · exact Or.inl (by have := pe i i0 i1 (Or.inl ⟨e, by omega⟩); unfold endA at this; exact this)
        · exact Or.inr (by omega)
      · simp only [if_neg q, if_neg q2]; exact ap
theorem pull_one (hV : VS B A H h fl S L T) (hX : IX A H h fl S L T M) (p : Int) (kb : ∀ r M', r < 0 → IX A H h fl S L T M' → (∀ s, 0 ≤ s → s < A 0 0 → A 2 s = p → r = -5 ∧ earA A s = A 4 s) → Φ r M') (k : ∀ s M', 0 ≤ s → s < A 0 0 → A 2 s = p → earA A s < A 4 s → VS B (pulA A s) (hsH A H h) (hsN h) fl S L T → IX (pulA A s) (hsH A H h) (hsN h) fl S L T M' → Φ (A 4 s - earA A s) M') : jB_pull p M Φ := by
  have hv := hV.1
  have hn := hv.n
  unfold jB_pull
  refine slotOf_ok hX.1 hv (fun s s0 s1 es => ⟨fun _ => ?_, fun z => absurd s0 z⟩) (fun hno => ⟨fun z => absurd z (by decide), fun _ => kb _ M (by omega) hX (fun s s0 s1 es => absurd es (hno s s0 s1))⟩)
  refine read_ok hX.1 hv (Or.inl rfl) (fun M3 hs3 ho3 hp3 => ?_)
  have hc3 : CV A M3 0 := hs3.cv (Or.inl rfl) hX.1
  have er := ear_rng hv s0 s1
  have ds := hv.day s s0 s1
  refine earliest_ok hc3 hv hp3 s0 s1 ⟨s0, by omega, ?_⟩
  rw [show M3 3 s = A 4 s from hc3.first s s0 s1]
  refine ⟨by omega, ?_⟩
  rintro _ rfl
  have hX3 := hX.scr (M2 := M3) (fun a ha => hs3 a (by omega) (by omega) (by omega))
  have vm := pulA_val hv s0 s1
  refine ⟨fun q => ?_, fun q => kb _ M3 (by omega) hX3 (fun s' s0' s1' es' => ⟨rfl, by rw [hv.uniq s0' s1' s0 s1 (es'.trans es.symm)]; omega⟩)⟩
  refine copyFrom_ok hv (Or.inr (by omega)) hX3.1 (fun M9 hs9 hc9 => ⟨s0, by omega, ?_⟩)
  rintro M11 e11
  have hs' : ∀ a, (a < 10 ∨ 20 ≤ a) → M11 a = M3 a := fun a q1 => by rw [e11, zup_other (by omega)]; exact hs9 a (by omega)
  refine settle_ok hV (hX3.same (fun a ha => hs' a (by omega)) (by rw [hs' 73 (by omega)]) (hs' 74 (by omega))) vm (lfA_CV hc9 (fun a a2 a3 => by rw [e11, zup_other a3]) (fun j j0 j1 => by rw [e11, zup_other (by omega)]; exact hc9.lane j j0 j1) (fun j j0 j1 => ?_)) (by omega) (fun Mx' hX' => k s Mx' s0 s1 es (by omega) (hV.push vm) hX')
  rw [e11]
  by_cases q2 : j = s
  · rw [if_pos q2, q2]; exact zup_at _ _ _ _
  · rw [if_neg q2]; exact (zup_ne q2).trans (hc9.first j j0 j1)
theorem bestSwap_one (hV : VS B A H h fl S L T) (hX : IX A H h fl S L T M) {w : Int} (w0 : 0 ≤ w) (w1 : w ≤ 3) (k : ∀ r M', IX A H h fl S L T M' → (((bsI A 144).1 = -5 ∧ r = -5) ∨ (0 ≤ (bsI A 144).1 ∧ ((w = 0 ∧ r = (bsI A 144).1 / 12) ∨ (w = 1 ∧ r = (bsI A 144).1 % 12) ∨ (w = 2 ∧ r = (bsI A 144).2.1) ∨ (w = 3 ∧ r = (bsI A 144).2.2)))) → Φ r M') : jB_bestSwap w M Φ := by
  have hv := hV.1
  unfold jB_bestSwap
  refine ⟨fun q => by omega, fun q => ⟨fun q2 => ?_, fun q2 => by omega⟩⟩
  refine copyFrom_ok hv (Or.inr (by omega)) hX.1 (fun M1 hs1 hc1 => swfind_ok hc1 hv (fun r M3 hs3 hF => ?_))
  have hX3 : IX A H h fl S L T M3 := hX.same (fun a ha => (hs3 a (by omega) (by omega) (by omega) (by omega) (by omega)).trans (hs1 a (by omega))) (by rw [hs3 73 (by omega) (by omega) (by omega) (by omega) (by omega), hs1 73 (by omega)]) ((hs3 74 (by omega) (by omega) (by omega) (by omega) (by omega)).trans (hs1 74 (by omega)))
  refine ⟨fun e => ?_, fun e => ?_⟩
  · have hf : 0 ≤ (bsI A 144).1 ∧ M3 87 0 = (bsI A 144).1 / 12 ∧ M3 87 1 = (bsI A 144).1 % 12 := by
      rcases hF.1 with z | z
      · exact absurd z.1 e
      · exact z.2
    have go : ∀ c, ((w = 0 ∧ c = (bsI A 144).1 / 12) ∨ (w = 1 ∧ c = (bsI A 144).1 % 12) ∨ (w = 2 ∧ c = (bsI A 144).2.1) ∨ (w = 3 ∧ c = (bsI A 144).2.2)) → Φ c M3 := fun c hc => k c M3 hX3 (Or.inr ⟨hf.1, hc⟩)
    exact ⟨fun e0 => go _ (Or.inl ⟨e0, hf.2.1⟩), fun e0 => ⟨fun e1 => go _ (Or.inr (Or.inl ⟨e1, hf.2.2⟩)), fun e1 => ⟨fun e2 => go _ (Or.inr (Or.inr (Or.inl ⟨e2, hF.2.1⟩))), fun e2 => go _ (Or.inr (Or.inr (Or.inr ⟨by omega, hF.2.2⟩)))⟩⟩⟩
  · have hf : (bsI A 144).1 = -5 := by
      rcases hF.1 with z | z
      · exact z.2
      · omega
    exact k _ M3 hX3 (Or.inl ⟨hf, rfl⟩)
theorem bestLane_one (hV : VS B A H h fl S L T) (hX : IX A H h fl S L T M) {s : Int} (s0 : 0 ≤ s) (s1 : s < A 0 0) (k : ∀ M', IX A H h fl S L T M' → Φ (blI A s 12).1 M') : jB_bestLane (A 2 s) M Φ := by
  have hv := hV.1
  have hn := hv.n
  unfold jB_bestLane
  refine slotOf_ok hX.1 hv (fun s' s0' s1' es => ⟨fun _ => ?_, fun z => absurd s0' z⟩) (fun hno => absurd rfl (hno s s0 s1))
  rw [hv.uniq s0' s1' s0 s1 es]
  have ds := hv.day s s0 s1
  refine copyFrom_ok hv (Or.inr (by omega)) hX.1 (fun M3 hs3 hc3 => ⟨s0, by omega, ?_⟩)
  rintro _ rfl
  have l3 : M3 2 s = A 3 s := by rw [hs3 2 (by omega)]; exact hX.1.lane s s0 s1
  rw [l3]
  refine zwh_run (fun v : Int × Int × Int × zM => 0 ≤ v.2.2.1 ∧ v.2.2.1 ≤ 12 ∧ ((blI A s v.2.2.1).1 = -5 → v.2.1 = 41) ∧ ((blI A s v.2.2.1).1 ≠ -5 → v.1 = (blI A s v.2.2.1).1 ∧ v.2.1 = (blI A s v.2.2.1).2) ∧ (∀ a, a ≠ 12 → a ≠ 82 → a ≠ 83 → a ≠ 84 → v.2.2.2 a = M3 a) ∧ ∀ j, 0 ≤ j → j < A 0 0 → j ≠ s → v.2.2.2 12 j = A 3 j) (fun v => (12 - v.2.2.1).toNat) ?_ (A 3 s, 41, 0, M3) ⟨Int.le_refl 0, (show (0 : Int) ≤ 12 by decide), fun _ => rfl, fun z => absurd rfl z, fun _ _ _ _ _ => rfl, fun j j0 j1 _ => hc3.lane j j0 j1⟩
  rintro K ⟨g, f, x, M7⟩ ⟨x0, x1, ef5, ef, hs7, h12⟩ hK
  have x0 : 0 ≤ x := x0
  have x1 : x ≤ 12 := x1
  have ef5 : (blI A s x).1 = -5 → f = 41 := ef5
  have ef : (blI A s x).1 ≠ -5 → g = (blI A s x).1 ∧ f = (blI A s x).2 := ef
  have hs7n : ∀ a, a ≠ 12 → a ≠ 82 → a ≠ 83 → a ≠ 84 → M7 a = M3 a := hs7
  have h12n : ∀ j, 0 ≤ j → j < A 0 0 → j ≠ s → M7 12 j = A 3 j := h12
  have sx : ∀ a, (a < 10 ∨ 20 ≤ a) → a < 82 → M7 a = M a := fun a q1 q2 => (hs7n a (by omega) (by omega) (by omega) (by omega)).trans (hs3 a (by omega))
  have hc7 : CV A M7 0 := hX.1.same (fun a a0 a1 => sx a (by omega) (by omega))
  have bs := blI_s (A := A) (s := s) x0
  show jB_bestLane_L43 (A 2 s) K Φ s g f x M7
  unfold jB_bestLane_L43
  refine ⟨fun q => ?_, fun q => ⟨s0, by omega, s0, by omega, ?_⟩⟩
  · have ex : x = 12 := by omega
    subst ex
    have ls := hv.lane s s0 s1
    have n5 : (blI A s 12).1 ≠ -5 := bl_own hv s0 s1 12 (by omega)
    rw [(ef n5).1]
    exact k M7 (hX.same (fun a ha => sx a (by omega) (by omega)) (by rw [sx 73 (by omega) (by omega)]) (sx 74 (by omega) (by omega)))
  · rw [show M7 3 s = A 4 s from hc7.first s s0 s1, show M7 4 s = A 5 s from hc7.days s s0 s1]
    refine room_ok hc7 hv (by omega) (fun hfr => ⟨fun z => absurd z (by decide), fun _ => ⟨s0, by omega, ?_⟩⟩) (fun hfr => ⟨fun _ => ⟨by omega, ?_⟩, fun z => absurd rfl z⟩)
    · have hfr : frL A s x := hfr
      have ur := uL_rng hv s0 s1 ⟨x0, by omega⟩ hfr
      rintro M12 e12
      have c12 : CV (movA A s x (A 4 s)) M12 10 := by
        rw [movA_same]
        have c7d : CV A (fun a => if a = 82 ∨ a = 83 ∨ a = 84 then M7 a else M3 a) 10 := hc3.same (fun a a0 a1 => by show (if a = 82 ∨ a = 83 ∨ a = 84 then M7 a else M3 a) = M3 a; rw [if_neg (by omega)])
        refine lfA_CV c7d (fun a a2 a3 => ?_) (fun j j0 j1 => ?_) (fun j j0 j1 => ?_)
        · show M12 a = if a = 82 ∨ a = 83 ∨ a = 84 then M7 a else M3 a
          rw [e12, zup_other a2]
          by_cases e : a = 82 ∨ a = 83 ∨ a = 84
          · rw [if_pos e]
          · rw [if_neg e]; exact hs7n a a2 (by omega) (by omega) (by omega)
        · by_cases e : j = s
          · rw [if_pos e, e12, e, zup_at]
          · rw [if_neg e, e12, zup_ne e]; exact h12n j j0 j1 e
        · rw [e12, zup_other (by omega), hs7n _ (by omega) (by omega) (by omega) (by omega)]; exact hc3.first j j0 j1
      refine draw_ok c12 ur.1 (Or.inr (Or.inl rfl)) (fun M13 hs13 hd13 => ?_)
      rw [hd13.2.2]
      have s13 : ∀ a, a ≠ 12 → a ≠ 82 → a ≠ 83 → a ≠ 84 → M13 a = M3 a := fun a a1 a2 a3 a4 => by rw [hs13 a a2 a3 a4, e12, zup_other a1]; exact hs7n a a1 a2 a3 a4
      have t13 : ∀ j, 0 ≤ j → j < A 0 0 → j ≠ s → M13 12 j = A 3 j := fun j j0 j1 e => by rw [hs13 12 (by omega) (by omega) (by omega), e12, zup_ne e]; exact h12n j j0 j1 e
      show (f ≤ uL A s x → _) ∧ (¬ (f ≤ uL A s x) → _)
      refine ⟨fun q2 => ⟨by omega, ?_⟩, fun q2 => ?_⟩
      · rintro _ rfl
        have n5 : (blI A s x).1 ≠ -5 := fun z => by have := ef5 z; omega
        have e2 := (ef n5).2
        rw [blT_n (fun z => by rcases z.2 with w | w; exact n5 w; omega)] at bs
        exact hK (g, f, x + 1, M13) ⟨by show 0 ≤ x + 1; omega, by show x + 1 ≤ 12; omega, by show (blI A s (x + 1)).1 = -5 → f = 41; rw [bs]; exact ef5, by show (blI A s (x + 1)).1 ≠ -5 → g = (blI A s (x + 1)).1 ∧ f = (blI A s (x + 1)).2; rw [bs]; exact ef, s13, t13⟩ (by show (12 - (x + 1)).toNat < (12 - x).toNat; omega)
      · rintro _ rfl
        refine ⟨by omega, ?_⟩
        rintro _ rfl
        rw [blT_y ⟨hfr, by by_cases z : (blI A s x).1 = -5; exact Or.inl z; have := (ef z).2; exact Or.inr (by omega)⟩] at bs
        exact hK (x, uL A s x, x + 1, M13) ⟨by show 0 ≤ x + 1; omega, by show x + 1 ≤ 12; omega, by show (blI A s (x + 1)).1 = -5 → uL A s x = 41; rw [bs]; intro z; have z : x = -5 := z; omega, by show (blI A s (x + 1)).1 ≠ -5 → x = (blI A s (x + 1)).1 ∧ uL A s x = (blI A s (x + 1)).2; rw [bs]; exact fun _ => ⟨rfl, rfl⟩, s13, t13⟩ (by show (12 - (x + 1)).toNat < (12 - x).toNat; omega)
    · rintro _ rfl
      rw [blT_n (fun z => hfr z.1)] at bs
      exact hK (g, f, x + 1, M7) ⟨by show 0 ≤ x + 1; omega, by show x + 1 ≤ 12; omega, by show (blI A s (x + 1)).1 = -5 → f = 41; rw [bs]; exact ef5, by show (blI A s (x + 1)).1 ≠ -5 → g = (blI A s (x + 1)).1 ∧ f = (blI A s (x + 1)).2; rw [bs]; exact ef, hs7n, h12n⟩ (by show (12 - (x + 1)).toNat < (12 - x).toNat; omega)
end AC
