/-! the acts: settings, widths, a new bar -/
theorem Val.up {B B' : Int} {A : zA} (hv : Val B A) (h : B ≤ B') : Val B' A := by
  have hs := hv.slip
  exact ⟨hv.1, hv.2.1, hv.2.2.1, hv.2.2.2.1, ⟨hs.1, by omega⟩, hv.2.2.2.2.2⟩
theorem VS.up {B B' : Int} {A : zA} {H : Int → zA} {h fl : Int} {S : zA} {L : Int} {T : Int → Int} (hV : VS B A H h fl S L T) (hb : B ≤ B') : VS B' A H h fl S L T :=
  ⟨hV.1.up hb, hV.2.1, fun i i0 i1 => (hV.2.2.1 i i0 i1).up hb, hV.2.2.2.1, fun q => (hV.2.2.2.2.1 q).up hb, hV.2.2.2.2.2⟩
section AC
variable {A A' S : zA} {H : Int → zA} {h fl L B : Int} {T : Int → Int} {M M2 Mm Mx' : zM}
theorem settleBad {r : Int} (r0 : r < 0) {Φ : Int → zM → Prop} (h : Φ r M) : jB_settle r M Φ := ⟨fun _ => h, fun q => absurd r0 q⟩
theorem isLane_ok {v : Int} {Φ : Int → Prop} (ht : 0 ≤ v → v < 12 → Φ 1) (hf : ¬ (0 ≤ v ∧ v < 12) → Φ 0) : jB_isLane v M Φ := ⟨fun q => hf (by omega), fun q => ⟨fun q2 => hf (by omega), fun q2 => ht (by omega) (by omega)⟩⟩
theorem isDay_ok {v : Int} {Φ : Int → Prop} (ht : 0 ≤ v → v < 200 → Φ 1) (hf : ¬ (0 ≤ v ∧ v < 200) → Φ 0) : jB_isDay v M Φ := ⟨fun q => hf (by omega), fun q => ⟨fun q2 => hf (by omega), fun q2 => ht (by omega) (by omega)⟩⟩
-- settings
def setA (A : zA) (a v : Int) : zA := fun k j => match k with | 12 => if j = a then v else A 12 j | k => A k j
def okSet (a v : Int) : Prop := (a = 0 ∧ 0 ≤ v ∧ v ≤ 2) ∨ (a = 1 ∧ 10 ≤ v ∧ v ≤ 999)
theorem setA_val (hv : Val B A) {a v : Int} (ho : okSet a v) : Val B (setA A a v) := by
  refine ⟨hv.1, hv.2.1, hv.2.2.1, hv.2.2.2.1, hv.2.2.2.2.1, hv.num, hv.numlt, hv.lane, hv.day, hv.apart, hv.anum, hv.anumlt, hv.from, hv.to, hv.wid, ?_, ?_⟩
  · show 0 ≤ (if 0 = a then v else A 12 0) ∧ (if 0 = a then v else A 12 0) ≤ 2
    have := hv.set0
    unfold okSet at ho
    by_cases e : 0 = a
    · simp only [if_pos e]; omega
    · simp only [if_neg e]; omega
  · show 10 ≤ (if 1 = a then v else A 12 1) ∧ (if 1 = a then v else A 12 1) ≤ 999
    have := hv.set1
    unfold okSet at ho
    by_cases e : 1 = a
    · simp only [if_pos e]; omega
    · simp only [if_neg e]; omega
theorem isSetting_ok {a v : Int} {Φ : Int → Prop} (ht : okSet a v → Φ 1) (hf : ¬ okSet a v → Φ 0) : jB_isSetting a v M Φ := by
  unfold okSet at ht hf
  exact ⟨fun e => ⟨fun q => hf (by omega), fun q => ⟨fun q2 => hf (by omega), fun q2 => ht (by omega)⟩⟩, fun e => ⟨fun e2 => ⟨fun q => hf (by omega), fun q => ⟨fun q2 => hf (by omega), fun q2 => ht (by omega)⟩⟩, fun e2 => hf (by omega)⟩⟩
end AC

