/-! bits: rows of kit/laws/BITS.to-paste (a starting text), then the same over whole numbers -/
def bt (x : Int32) (i : Nat) : Bool := x.toBitVec.getLsbD i
theorem b_ext {x y : Int32} (h : ∀ i, i < 32 → bt x i = bt y i) : x = y := Int32.toBitVec_inj.mp (BitVec.eq_of_getLsbD_eq (fun i hi => h i hi))
theorem b_or (x y : Int32) (i : Nat) : bt (x ||| y) i = (bt x i || bt y i) := by unfold bt; rw [Int32.toBitVec_or, BitVec.getLsbD_or]
theorem b_and (x y : Int32) (i : Nat) : bt (x &&& y) i = (bt x i && bt y i) := by unfold bt; rw [Int32.toBitVec_and, BitVec.getLsbD_and]
theorem b_xor (x y : Int32) (i : Nat) : bt (x ^^^ y) i = (bt x i ^^ bt y i) := by unfold bt; rw [Int32.toBitVec_xor, BitVec.getLsbD_xor]
theorem b_big {x : Int32} {i : Nat} (h : 32 ≤ i) : bt x i = false := BitVec.getLsbD_of_ge _ _ h
theorem b_m1 : ∀ i, i < 32 → bt (-1) i = true := by decide +kernel
theorem b_0 (i : Nat) : bt 0 i = false := BitVec.getLsbD_zero
theorem s_l : ∀ n, n < 32 → ((nI n &&& 31).toBitVec.smod 32).toNat = n := by decide +kernel
theorem b_shl (n : Nat) (hn : n < 32) (x : Int32) {i : Nat} (hi : i < 32) : bt (x <<< (nI n &&& 31)) i = (decide (n ≤ i) && bt x (i - n)) := by
  unfold bt
  rw [Int32.toBitVec_shiftLeft]
  show (x.toBitVec <<< ((nI n &&& 31).toBitVec.smod 32).toNat).getLsbD i = _
  rw [s_l n hn, BitVec.getLsbD_shiftLeft]
  rcases Nat.lt_or_ge i n with h | h
  · simp [h, Nat.not_le.mpr h]
  · simp [hi, h, Nat.not_lt.mpr h]
theorem b_sshr (n : Nat) (hn : n < 32) (x : Int32) {i : Nat} (hi : i < 32) : bt (x >>> (nI n &&& 31)) i = if n + i < 32 then bt x (n + i) else bt x 31 := by
  unfold bt
  rw [Int32.toBitVec_shiftRight]
  show (x.toBitVec.sshiftRight ((nI n &&& 31).toBitVec.smod 32).toNat).getLsbD i = _
  rw [s_l n hn, BitVec.getLsbD_sshiftRight, BitVec.msb_eq_getLsbD_last]
  simp [hi]

def bI (x i : Int) : Bool := bt (Int32.ofInt x) i.toNat
theorem bI_or (x y i : Int) : bI (zor x y) i = (bI x i || bI y i) := by
  unfold bI zor
  rw [zi_of, b_or]
theorem bI_and (x y i : Int) : bI (zand x y) i = (bI x i && bI y i) := by
  unfold bI zand
  rw [zi_of, b_and]
theorem bI_0 (i : Int) : bI 0 i = false := b_0 _
theorem zi_nI (n : Nat) : Int32.ofInt (n : Int) = nI n := by unfold nI; exact Int32.ofInt_eq_ofNat
theorem b_1 : ∀ i, i < 32 → bt 1 i = decide (i = 0) := by decide +kernel
theorem bI_1 {k i : Int} (hk : 0 ≤ k ∧ k < 32) (hi : 0 ≤ i ∧ i < 32) : bI (zshl 1 k) i = decide (i = k) := by
  obtain ⟨a, rfl⟩ := Int.eq_ofNat_of_zero_le hk.1
  obtain ⟨c, rfl⟩ := Int.eq_ofNat_of_zero_le hi.1
  unfold bI zshl
  rw [zi_of, zi_nI]
  show bt ((1 : Int32) <<< (nI a &&& 31)) c = _
  rw [b_shl a (by omega) 1 (by omega), b_1 _ (by omega)]
  by_cases h : c = a
  · subst h; simp
  · rw [decide_eq_false (show ¬ ((c : Int) = a) by omega)]
    by_cases h2 : a ≤ c
    · rw [decide_eq_false (show ¬ (c - a = 0) by omega)]; simp
    · rw [decide_eq_false h2]; simp
theorem zand_0 {x y : Int} : zand x y = 0 ↔ ∀ i, 0 ≤ i → i < 32 → ¬ (bI x i = true ∧ bI y i = true) := by
  constructor
  · intro h i h0 h1 hb
    have e := bI_and x y i
    rw [h, bI_0, hb.1, hb.2] at e
    cases e
  · intro h
    have e : Int32.ofInt x &&& Int32.ofInt y = 0 := by
      apply b_ext
      intro i hi
      rw [b_and, b_0]
      have h1 := h (i : Int) (by omega) (by omega)
      unfold bI at h1
      simp only [Int.toNat_natCast] at h1
      cases h2 : bt (Int32.ofInt x) i <;> cases h3 : bt (Int32.ofInt y) i <;> simp_all
    unfold zand
    rw [e]
    rfl
theorem zbit_1 {x k : Int} (hk : 0 ≤ k ∧ k < 32) : zand (zshr x k) 1 = 1 ↔ bI x k = true := by
  obtain ⟨a, rfl⟩ := Int.eq_ofNat_of_zero_le hk.1
  have e : zand (zshr x (a : Int)) 1 = ((Int32.ofInt x >>> (nI a &&& 31)) &&& 1).toInt := by
    unfold zand zshr
    rw [zi_of, zi_nI]
    rfl
  have e2 : (Int32.ofInt x >>> (nI a &&& 31)) &&& 1 = if bt (Int32.ofInt x) a then (1 : Int32) else 0 := by
    apply b_ext
    intro i hi
    rw [b_and, b_1 i hi, b_sshr a (by omega) _ hi]
    by_cases h : i = 0
    · subst h
      rw [if_pos (by omega)]
      cases h2 : bt (Int32.ofInt x) a <;> simp [h2, b_0, b_1]
    · rw [decide_eq_false h, Bool.and_false]
      split
      · rw [b_1 i hi, decide_eq_false h]
      · rw [b_0]
  rw [e, e2]
  unfold bI
  rw [Int.toNat_natCast]
  cases bt (Int32.ofInt x) a <;> decide
def lmask (lo hi : Int) : Int := zand (zshl 1 hi - 1) (zxor (zshl 2 lo - 1) (-1))
theorem lm_dec1 : ∀ lo : Nat, lo < 12 → (-2147483648 ≤ zshl 2 (lo : Int) - 1 ∧ zshl 2 (lo : Int) - 1 < 2147483648) := by decide +kernel
theorem lm_dec2 : ∀ lo : Nat, lo < 12 → (-2147483648 ≤ zshl 1 (lo : Int) - 1 ∧ zshl 1 (lo : Int) - 1 < 2147483648) := by decide +kernel
theorem lm_dec3 : ∀ lo : Nat, lo < 12 → ∀ hi : Nat, hi < 12 → ∀ i : Nat, i < 32 → bI (lmask (lo : Int) (hi : Int)) (i : Int) = decide (lo < i ∧ i < hi) := by decide +kernel
theorem lm_ok {lo hi i : Int} (h0 : 0 ≤ lo ∧ lo < 12) (h1 : 0 ≤ hi ∧ hi < 12) (hi2 : 0 ≤ i ∧ i < 32) : (i32 (zshl 2 lo - 1) ∧ i32 (zshl 1 hi - 1)) ∧ bI (lmask lo hi) i = decide (lo < i ∧ i < hi) := by
  obtain ⟨a, rfl⟩ := Int.eq_ofNat_of_zero_le h0.1
  obtain ⟨b, rfl⟩ := Int.eq_ofNat_of_zero_le h1.1
  obtain ⟨c, rfl⟩ := Int.eq_ofNat_of_zero_le hi2.1
  refine ⟨⟨lm_dec1 a (by omega), lm_dec2 b (by omega)⟩, (lm_dec3 a (by omega) b (by omega) c (by omega)).trans ?_⟩
  by_cases h : a < c ∧ c < b
  · rw [decide_eq_true h, decide_eq_true (by omega)]
  · rw [decide_eq_false h, decide_eq_false (by omega)]

