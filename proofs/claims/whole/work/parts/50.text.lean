/-! the text: characters come and go; what the reader of parts does, a step at a time -/
section AC
variable {A A' S : zA} {H : Int → zA} {h fl L B : Int} {T : Int → Int} {M M2 Mm Mx Mx' W W' W2 : zM} {b : Nat}
theorem type_pair (hp : PI B Mx Mm) {c : Int} (c0 : 0 ≤ c) (c1 : c < 65536) : jB_type c Mx (fun r Mx' => jM_type c Mm (fun r' Mm' => r' = r ∧ PI B Mx' Mm')) := by
  obtain ⟨A, H, h, fl, S, L, T, hV, hX, hM⟩ := hp
  have hL := hV.2.2.2.2.2.1
  have hT := hV.2.2.2.2.2.2
  obtain ⟨i1, i2, i3, i4, i5, i6, i7, i8⟩ := hX
  obtain ⟨j1, j2, j3, j4, j5, j6, j7⟩ := hM
  unfold jB_type jT_append jM_type
  rw [i7, j6]
  refine ⟨fun q => ⟨by omega, by omega, c0, c1, ?_⟩, fun q => ⟨fun z => by omega, fun _ => ⟨rfl, A, H, h, fl, S, L, T, hV, ⟨i1, i2, i3, i4, i5, i6, i7, i8⟩, ⟨j1, j2, j3, j4, j5, j6, j7⟩⟩⟩⟩
  rintro M3 e3
  have g73 : M3 73 = Mx 73 := by rw [e3, zup_other (by omega)]
  rw [g73, i7]
  refine ⟨by omega, ?_⟩
  rintro M5 e5
  refine ⟨fun _ => ⟨by omega, by omega, ?_⟩, fun z => by omega⟩
  rintro N2 f2
  have g0 : N2 0 = Mm 0 := by rw [f2, zup_other (by omega)]
  rw [g0, j6]
  refine ⟨by omega, ?_⟩
  rintro N4 f4
  have sx : ∀ a, a ≠ 73 → a ≠ 74 → M5 a = Mx a := fun a a1 a2 => by rw [e5, zup_other a1, e3, zup_other a2]
  have sm : ∀ a, a ≠ 0 → a ≠ 5 → N4 a = Mm a := fun a a1 a2 => by rw [f4, zup_other a1, f2, zup_other a2]
  have sm0 : ∀ x, x ≠ 7 → N4 0 x = Mm 0 x := fun x hx => by rw [f4, zup_ne hx, g0]
  have q1 : M5 73 1 = L + 1 := by rw [e5, zup_at]
  have q2 : N4 0 7 = L + 1 := by rw [f4, zup_at]
  refine ⟨by rw [q1, q2], A, H, h, fl, S, L + 1, (fun i => if i = L then c else T i), ⟨hV.1, hV.2.1, hV.2.2.1, hV.2.2.2.1, hV.2.2.2.2.1, by omega, fun i i0 i1 => ?_⟩, ⟨i1.same (fun a a0 a1 => sx a (by omega) (by omega)), by rw [sx 71 (by omega) (by omega)]; exact i2, by rw [sx 71 (by omega) (by omega)]; exact i3, fun i i0 q3 => by rw [sx 71 (by omega) (by omega)]; exact (i4 i i0 q3).same (fun a a0 a1 => sx a (by omega) (by omega)), by rw [sx 70 (by omega) (by omega)]; exact i5, fun q3 => (i6 q3).same (fun a a0 a1 => sx a (by omega) (by omega)), q1, fun i i0 q3 => ?_⟩, ⟨by rw [sm 1 (by omega) (by omega)]; exact j1, by rw [sm0 3 (by omega)]; exact j2, fun i i0 q3 => by rw [sm 3 (by omega) (by omega)]; exact j3 i i0 q3, by rw [sm0 5 (by omega)]; exact j4, fun q3 => by rw [sm 4 (by omega) (by omega)]; exact j5 q3, q2, fun i i0 q3 => ?_⟩⟩
  · show 0 ≤ (if i = L then c else T i) ∧ (if i = L then c else T i) < 65536
    by_cases e : i = L
    · rw [if_pos e]; omega
    · rw [if_neg e]; exact hT i i0 (by omega)
  · show M5 74 i = if i = L then c else T i
    rw [e5, zup_other (by omega), e3]
    by_cases e : i = L
    · rw [if_pos e, e, zup_at]
    · rw [if_neg e, zup_ne e]; exact i8 i i0 (by omega)
  · show N4 5 i = if i = L then c else T i
    rw [f4, zup_other (by omega), f2]
    by_cases e : i = L
    · rw [if_pos e, e, zup_at]
    · rw [if_neg e, zup_ne e]; exact j7 i i0 (by omega)
theorem clearText_pair (hp : PI B Mx Mm) : jB_clearText Mx (fun r Mx' => jM_clearText Mm (fun r' Mm' => r' = r ∧ PI B Mx' Mm')) := by
  obtain ⟨A, H, h, fl, S, L, T, hV, hX, hM⟩ := hp
  have hL := hV.2.2.2.2.2.1
  obtain ⟨i1, i2, i3, i4, i5, i6, i7, i8⟩ := hX
  obtain ⟨j1, j2, j3, j4, j5, j6, j7⟩ := hM
  unfold jB_clearText jM_clearText
  rintro v ev M5 e5 v' ev' N4 f4
  have sx : ∀ a, a ≠ 73 → M5 a = Mx a := fun a a1 => by rw [e5, zup_other a1]
  have sm : ∀ a, a ≠ 0 → N4 a = Mm a := fun a a1 => by rw [f4, zup_other a1]
  have sm0 : ∀ x, x ≠ 7 → N4 0 x = Mm 0 x := fun x hx => by rw [f4, zup_ne hx]
  have q1 : M5 73 1 = 0 := by rw [e5, zup_at]
  have q2 : N4 0 7 = 0 := by rw [f4, zup_at]
  refine ⟨by rw [ev, ev', i7, j6], A, H, h, fl, S, 0, T, ⟨hV.1, hV.2.1, hV.2.2.1, hV.2.2.2.1, hV.2.2.2.2.1, by omega, fun i i0 i1 => by omega⟩, ⟨i1.same (fun a a0 a1 => sx a (by omega)), by rw [sx 71 (by omega)]; exact i2, by rw [sx 71 (by omega)]; exact i3, fun i i0 q3 => by rw [sx 71 (by omega)]; exact (i4 i i0 q3).same (fun a a0 a1 => sx a (by omega)), by rw [sx 70 (by omega)]; exact i5, fun q3 => (i6 q3).same (fun a a0 a1 => sx a (by omega)), q1, fun i i0 q3 => by omega⟩, ⟨by rw [sm 1 (by omega)]; exact j1, by rw [sm0 3 (by omega)]; exact j2, fun i i0 q3 => by rw [sm 3 (by omega)]; exact j3 i i0 q3, by rw [sm0 5 (by omega)]; exact j4, fun q3 => by rw [sm 4 (by omega)]; exact j5 q3, q2, fun i i0 q3 => by omega⟩⟩
-- the reader of parts: 73 6 the field, 73 7 the value, 73 8 the digits, 73 2 the parts; 75, 76, 77 their numbers
def grF (f : Int) : Int := if f = 1 then 199 else if f = 2 then 30 else 89
def dgOK (c : Int) (M : zM) : Prop := (48 ≤ c ∧ c ≤ 57) ∧ ¬ (0 < M 73 8 ∧ M 73 7 = 0) ∧ ¬ (M 73 6 = 2 ∧ M 73 8 = 0 ∧ c = 48) ∧ M 73 7 * 10 + (c - 48) ≤ grF (M 73 6)
def dgM (c : Int) (M : zM) : zM := zup (zup M 73 7 (M 73 7 * 10 + (c - 48))) 73 8 (M 73 8 + 1)
def begM (f : Int) (M : zM) : zM := zup (zup (zup M 73 6 f) 73 7 0) 73 8 0
def stoM (M : zM) : zM := if M 73 2 < 16 then (if M 73 6 = 0 then zup M 75 (M 73 2) (M 73 7) else if M 73 6 = 2 then zup M 77 (M 73 2) (M 73 7) else zup M 76 (M 73 2) (M 73 7)) else M
def turnM (f : Int) (M : zM) : zM := begM f (stoM M)
def zeroM (M : zM) : zM := if M 73 6 = 3 ∧ M 73 2 < 16 then zup M 77 (M 73 2) 0 else M
def endM (M : zM) : zM := begM 0 (zup (stoM (zeroM M)) 73 2 (M 73 2 + 1))
def TSt (c : Int) (M M' : zM) : Prop := (dgOK c M ∧ M' = dgM c M) ∨ (0 < M 73 8 ∧ ((c = 64 ∧ M 73 6 = 0 ∧ M 73 7 < 12 ∧ M' = turnM 1 M) ∨ (c = 62 ∧ M 73 6 = 0 ∧ M' = turnM 3 M) ∨ (c = 43 ∧ M 73 6 = 1 ∧ M' = turnM 2 M) ∨ (c = 59 ∧ (M 73 6 = 2 ∨ M 73 6 = 3) ∧ M' = endM M)))
theorem TSt.uniq {c : Int} (h1 : TSt c M W) (h2 : TSt c M W') : W = W' := by
  unfold TSt dgOK at h1 h2
  rcases h1 with ⟨h1, e1⟩ | ⟨h1, q1⟩
  · rcases h2 with ⟨h2, e2⟩ | ⟨h2, q2⟩
    · rw [e1, e2]
    · omega
  · rcases h2 with ⟨h2, e2⟩ | ⟨h2, q2⟩
    · omega
    · rcases q1 with q1 | q1 | q1 | q1 <;> rcases q2 with q2 | q2 | q2 | q2
      · rw [q1.2.2.2, q2.2.2.2]
      · omega
      · omega
      · omega
      · omega
      · rw [q1.2.2, q2.2.2]
      · omega
      · omega
      · omega
      · omega
      · rw [q1.2.2, q2.2.2]
      · omega
      · omega
      · omega
      · omega
      · rw [q1.2.2, q2.2.2]
def smT (M M' : zM) : Prop := (∀ a, a ≠ 73 → a ≠ 75 → a ≠ 76 → a ≠ 77 → M' a = M a) ∧ M' 73 1 = M 73 1
theorem smT.rfl' : smT M M := ⟨fun _ _ _ _ _ => rfl, rfl⟩
theorem smT.tr {M1 : zM} (h1 : smT M M1) (h2 : smT M1 M2) : smT M M2 := ⟨fun a a1 a2 a3 a4 => (h2.1 a a1 a2 a3 a4).trans (h1.1 a a1 a2 a3 a4), h2.2.trans h1.2⟩
theorem smT.up {k x : Int} {a : Nat} (ha : a = 73 ∨ a = 75 ∨ a = 76 ∨ a = 77) (hk : a = 73 → k ≠ 1) : smT M (zup M a k x) := by
  refine ⟨fun c c1 c2 c3 c4 => zup_other (by omega), ?_⟩
  by_cases e : a = 73
  · subst e; exact zup_ne (fun z => hk rfl z.symm)
  · exact congrFun (zup_other (fun z => e z.symm)) 1
theorem begM_sm (f : Int) : smT M (begM f M) := ((smT.up (by omega) (fun _ => by omega)).tr (smT.up (by omega) (fun _ => by omega))).tr (smT.up (by omega) (fun _ => by omega))
theorem stoM_sm : smT M (stoM M) := by
  unfold stoM
  split
  · split
    · exact smT.up (by omega) (fun z => by omega)
    · split
      · exact smT.up (by omega) (fun z => by omega)
      · exact smT.up (by omega) (fun z => by omega)
  · exact smT.rfl'
theorem stoM_73 : stoM M 73 = M 73 := by
  unfold stoM
  split
  · split
    · exact zup_other (by omega)
    · split
      · exact zup_other (by omega)
      · exact zup_other (by omega)
  · rfl
theorem zeroM_73 : zeroM M 73 = M 73 := by
  unfold zeroM
  split
  · exact zup_other (by omega)
  · rfl
theorem zeroM_sm : smT M (zeroM M) := by
  unfold zeroM
  split
  · exact smT.up (by omega) (fun z => by omega)
  · exact smT.rfl'
theorem turnM_sm (f : Int) : smT M (turnM f M) := stoM_sm.tr (begM_sm f)
theorem endM_sm : smT M (endM M) := ((zeroM_sm.tr stoM_sm).tr (smT.up (by omega) (fun _ => by omega))).tr (begM_sm 0)
theorem begM_6 (f : Int) : begM f M 73 6 = f := by unfold begM; rw [zup_ne (by omega), zup_ne (by omega), zup_at]
theorem begM_7 (f : Int) : begM f M 73 7 = 0 := by unfold begM; rw [zup_ne (by omega), zup_at]
theorem begM_8 (f : Int) : begM f M 73 8 = 0 := by unfold begM; rw [zup_at]
theorem begM_2 (f : Int) : begM f M 73 2 = M 73 2 := by unfold begM; rw [zup_ne (by omega), zup_ne (by omega), zup_ne (by omega)]
theorem begM_o (f : Int) {a : Nat} (h : a ≠ 73) : begM f M a = M a := by unfold begM; rw [zup_other h, zup_other h, zup_other h]
theorem endM_2 : endM M 73 2 = M 73 2 + 1 := by unfold endM; rw [begM_2, zup_at]
theorem turnM_2 (f : Int) : turnM f M 73 2 = M 73 2 := by unfold turnM; rw [begM_2, stoM_73]
theorem dgM_2 (c : Int) : dgM c M 73 2 = M 73 2 := by unfold dgM; rw [zup_ne (by omega), zup_ne (by omega)]
theorem dgM_6 (c : Int) : dgM c M 73 6 = M 73 6 := by unfold dgM; rw [zup_ne (by omega), zup_ne (by omega)]
theorem dgM_7 (c : Int) : dgM c M 73 7 = M 73 7 * 10 + (c - 48) := by unfold dgM; rw [zup_ne (by omega), zup_at]
theorem dgM_8 (c : Int) : dgM c M 73 8 = M 73 8 + 1 := by unfold dgM; rw [zup_at]
theorem dgM_o (c : Int) {a : Nat} (h : a ≠ 73) : dgM c M a = M a := by unfold dgM; rw [zup_other h, zup_other h]
theorem dgM_sm (c : Int) : smT M (dgM c M) := (smT.up (by omega) (fun _ => by omega)).tr (smT.up (by omega) (fun _ => by omega))
theorem TSt.sm {c : Int} (h : TSt c M W) : smT M W := by
  rcases h with ⟨_, rfl⟩ | ⟨_, ⟨_, _, _, rfl⟩ | ⟨_, _, rfl⟩ | ⟨_, _, rfl⟩ | ⟨_, _, rfl⟩⟩
  · exact dgM_sm c
  · exact turnM_sm 1
  · exact turnM_sm 3
  · exact turnM_sm 2
  · exact endM_sm
-- what holds of a reader at the place q
def TI (q : Int) (M : zM) : Prop := (0 ≤ M 73 2 ∧ 4 * M 73 2 + (if M 73 6 = 0 then 0 else 2) + (if 0 < M 73 8 then 1 else 0) ≤ q) ∧ (0 ≤ M 73 6 ∧ M 73 6 ≤ 3) ∧ (0 ≤ M 73 8 ∧ M 73 8 ≤ q) ∧ (0 ≤ M 73 7 ∧ M 73 7 ≤ 199) ∧ (M 73 8 = 0 → M 73 7 = 0) ∧ (M 73 6 = 2 → 0 < M 73 8 → 1 ≤ M 73 7)
theorem grF_rng (f : Int) : grF f ≤ 199 := by unfold grF; split; omega; split <;> omega
theorem TI.step {q c : Int} (hI : TI q M) (h : TSt c M W) : TI (q + 1) W := by
  have g := grF_rng (M 73 6)
  obtain ⟨⟨n0, n1⟩, f0, d0, v0, z1, z2⟩ := hI
  rcases h with ⟨hd, rfl⟩ | ⟨hd, ⟨_, hf, _, rfl⟩ | ⟨_, hf, rfl⟩ | ⟨_, hf, rfl⟩ | ⟨_, hf, rfl⟩⟩
  · unfold dgOK at hd
    unfold TI
    rw [dgM_2, dgM_6, dgM_7, dgM_8]
    refine ⟨⟨n0, ?_⟩, f0, by omega, by omega, fun z => by omega, fun z _ => ?_⟩
    · split at n1 <;> split at n1 <;> split <;> split <;> omega
    · by_cases e : M 73 8 = 0
      · have := z1 e; omega
      · have := z2 z (by omega); omega
  · unfold TI
    rw [turnM_2]
    unfold turnM
    rw [begM_6, begM_7, begM_8]
    rw [if_pos hf, if_pos hd] at n1
    refine ⟨⟨n0, ?_⟩, by omega, by omega, by omega, fun _ => rfl, fun _ z => by omega⟩
    split <;> split <;> omega
  · unfold TI
    rw [turnM_2]
    unfold turnM
    rw [begM_6, begM_7, begM_8]
    rw [if_pos hf, if_pos hd] at n1
    refine ⟨⟨n0, ?_⟩, by omega, by omega, by omega, fun _ => rfl, fun _ z => by omega⟩
    split <;> split <;> omega
  · unfold TI
    rw [turnM_2]
    unfold turnM
    rw [begM_6, begM_7, begM_8]
    rw [if_neg (by omega), if_pos hd] at n1
    refine ⟨⟨n0, ?_⟩, by omega, by omega, by omega, fun _ => rfl, fun _ z => by omega⟩
    split <;> split <;> omega
  · unfold TI
    rw [endM_2]
    unfold endM
    rw [begM_6, begM_7, begM_8]
    rw [if_neg (by omega), if_pos hd] at n1
    refine ⟨⟨by omega, ?_⟩, by omega, by omega, by omega, fun _ => rfl, fun _ z => by omega⟩
    split <;> split <;> omega
def Rn (T : Int → Int) (W : zM) : Nat → zM → Prop
  | 0, M => M = W
  | k + 1, M => ∃ M1, Rn T W k M1 ∧ TSt (T k) M1 M
def iniM (M : zM) : zM := begM 0 (zup M 73 2 0)
theorem iniM_TI : TI 0 (iniM M) := by
  unfold TI iniM
  rw [begM_6, begM_7, begM_8, begM_2, zup_at]
  refine ⟨⟨by omega, ?_⟩, by omega, by omega, by omega, fun _ => rfl, fun _ z => by omega⟩
  split <;> split <;> omega
theorem iniM_sm : smT M (iniM M) := (smT.up (by omega) (fun _ => by omega)).tr (begM_sm 0)
theorem Rn.uniq : ∀ {k : Nat} {M M2 : zM}, Rn T W k M → Rn T W k M2 → M = M2
  | 0, M, M2, h1, h2 => by rw [show M = W from h1, show M2 = W from h2]
  | k + 1, M, M2, ⟨N1, a1, b1⟩, ⟨N2, a2, b2⟩ => by
    have e := Rn.uniq a1 a2
    subst e
    exact b1.uniq b2
theorem Rn.pre : ∀ {k j : Nat} {M : zM}, Rn T W k M → j < k → ∃ M1 M2, Rn T W j M1 ∧ TSt (T j) M1 M2
  | 0, j, M, _, hj => by omega
  | k + 1, j, M, ⟨N1, a1, b1⟩, hj => by
    by_cases e : j = k
    · subst e; exact ⟨N1, M, a1, b1⟩
    · exact Rn.pre a1 (by omega)
theorem Rn.TI : ∀ {k : Nat} {M : zM}, Rn T (iniM W) k M → TI k M
  | 0, M, h => by rw [show M = iniM W from h]; exact iniM_TI
  | k + 1, M, ⟨N1, a1, b1⟩ => by
    have := TI.step (Rn.TI a1) b1
    rw [show ((k + 1 : Nat) : Int) = (k : Int) + 1 by omega]
    exact this
theorem Rn.sm : ∀ {k : Nat} {M : zM}, Rn T (iniM W) k M → smT W M
  | 0, M, h => by rw [show M = iniM W from h]; exact iniM_sm
  | k + 1, M, ⟨N1, a1, b1⟩ => (Rn.sm a1).tr b1.sm
def goodW (M : zM) : Prop := 0 < M 73 8 ∧ (M 73 6 = 2 ∨ M 73 6 = 3)
def Flt (T : Int → Int) (W : zM) (L q : Int) : Prop := 0 ≤ q ∧ q ≤ L ∧ ∃ M, Rn T W q.toNat M ∧ ((q < L ∧ ∀ M', ¬ TSt (T q) M M') ∨ (q = L ∧ ¬ goodW M))
def Gud (T : Int → Int) (W : zM) (L : Int) : Prop := ∃ M, Rn T W L.toNat M ∧ goodW M
theorem Flt.uniq {q q' : Int} (h1 : Flt T W L q) (h2 : Flt T W L q') : q = q' := by
  have key : ∀ {q q' : Int}, Flt T W L q → Flt T W L q' → ¬ q < q' := by
    rintro q q' ⟨a0, a1, M, r, s⟩ ⟨b0, b1, M', r', s'⟩ hlt
    obtain ⟨N1, N2, c1, c2⟩ := Rn.pre r' (show q.toNat < q'.toNat by omega)
    have e := Rn.uniq r c1
    subst e
    rw [show ((q.toNat : Nat) : Int) = q by omega] at c2
    rcases s with s | s
    · exact s.2 _ c2
    · omega
  rcases Int.lt_trichotomy q q' with z | z | z
  · exact absurd z (key h1 h2)
  · exact z
  · exact absurd z (key h2 h1)
theorem Flt.not {q : Int} (h1 : Flt T W L q) (h2 : Gud T W L) : False := by
  obtain ⟨a0, a1, M, r, s⟩ := h1
  obtain ⟨M', r', s'⟩ := h2
  rcases s with s | s
  · obtain ⟨N1, N2, c1, c2⟩ := Rn.pre r' (show q.toNat < L.toNat by omega)
    have e := Rn.uniq r c1
    subst e
    rw [show ((q.toNat : Nat) : Int) = q by omega] at c2
    exact s.2 _ c2
  · obtain ⟨e, s⟩ := s
    subst e
    have e := Rn.uniq r r'
    subst e
    exact s s'
end AC
