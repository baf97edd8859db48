/-! what is asked of a bar -/
section AC
variable {A A' S : zA} {H : Int → zA} {h fl L B : Int} {T : Int → Int} {M M2 Mm Mx : zM} {b : Nat}
theorem stripB1_ok (hc : CV A M 0) (hv : Val B A) {d : Int} (d0 : 0 ≤ d) (d1 : d < gEnd A) {Φ : Int → zM → Prop} (k : ∀ st n t, CutP A st n → 0 ≤ t → t < n → st t ≤ d → d < st (t + 1) → ∀ M', smC M M' → Φ t M') : jB_stripOf d M Φ := by
  unfold jB_stripOf
  exact cut_ok hc hv (Or.inl rfl) (fun M1 hs hC => stripOfK_ok hv rfl hC d0 d1 (fun t t0 t1 a c => k _ _ t hC t0 t1 a c M1 hs))
theorem smC.scr {M' : zM} (hI : IX A H h fl S L T M) (hs : smC M M') : IX A H h fl S L T M' := hI.scr (fun a ha => hs a (by omega) (by omega))
theorem bar_gEnd (hv : Val B A) {s : Int} (s0 : 0 ≤ s) (s1 : s < A 0 0) : endA A s ≤ gEnd A := mxI_ub (f := endA A) s0 s1
end AC

