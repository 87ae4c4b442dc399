/-! the model's memory of what was in vain -/
theorem l_or (a b : Nat) : lN a ||| lN b = lN (a ||| b) := by
  apply Int64.toBitVec_inj.mp
  apply BitVec.eq_of_getLsbD_eq
  intro i hi
  have e1 : (lN a ||| lN b).toBitVec = BitVec.ofNat 64 a ||| BitVec.ofNat 64 b := rfl
  have e2 : (lN (a ||| b)).toBitVec = BitVec.ofNat 64 (a ||| b) := rfl
  rw [e1, e2, BitVec.getLsbD_or, BitVec.getLsbD_ofNat, BitVec.getLsbD_ofNat, BitVec.getLsbD_ofNat, decide_eq_true hi, Nat.testBit_or]
  simp
theorem l_shl {x k : Nat} (hk : k < 64) : lN x <<< (lN k) = lN (x * 2 ^ k) := by
  apply Int64.toBitVec_inj.mp
  have e : ((lN k).toBitVec.smod 64).toNat = k := by
    have : ∀ k, k < 64 → ((lN k).toBitVec.smod 64).toNat = k := by decide +kernel
    exact this k hk
  show BitVec.ofNat 64 x <<< ((lN k).toBitVec.smod 64) = BitVec.ofNat 64 (x * 2 ^ k)
  apply BitVec.eq_of_toNat_eq
  rw [BitVec.shiftLeft_eq', e, BitVec.toNat_shiftLeft, BitVec.toNat_ofNat, BitVec.toNat_ofNat, Nat.shiftLeft_eq, Nat.mod_mul_mod]
def kyM (f a b : Nat) : Nat := f * 4294967296 + a * 65536 + b + 1
theorem kyM_inj {f a b f' a' b' : Nat} (h1 : a < 65536) (h2 : b < 65536) (h3 : a' < 65536) (h4 : b' < 65536) (e : kyM f a b = kyM f' a' b') : f = f' ∧ a = a' ∧ b = b' := by
  unfold kyM at e
  omega
theorem key_eq {f a b : Nat} (hf : f < 6) (ha : a < 65536) (hb : b < 65536) : ((((nI f).toInt64 <<< ((32 : Int32).toInt64 &&& 63)) ||| ((nI a).toInt64 <<< ((16 : Int32).toInt64 &&& 63))) ||| (nI b).toInt64) + 1 = lN (kyM f a b) := by
  rw [nI_l (by omega), nI_l (by omega), nI_l (by omega), show ((32 : Int32).toInt64 &&& 63) = lN 32 from by decide, show ((16 : Int32).toInt64 &&& 63) = lN 16 from by decide, l_shl (by omega), l_shl (by omega), l_or, l_or, show (1 : Int64) = lN 1 from rfl, lN_add]
  congr 1
  have e1 : f * 2 ^ 32 ||| a * 2 ^ 16 = f * 2 ^ 32 + a * 2 ^ 16 := by
    rw [Nat.mul_comm f, ← Nat.two_pow_add_eq_or_of_lt (by omega : a * 2 ^ 16 < 2 ^ 32)]
  have e2 : (f * 2 ^ 32 + a * 2 ^ 16) ||| b = f * 2 ^ 32 + a * 2 ^ 16 + b := by
    have : f * 2 ^ 32 + a * 2 ^ 16 = 2 ^ 16 * (f * 65536 + a) := by omega
    rw [this, ← Nat.two_pow_add_eq_or_of_lt (by omega : b < 2 ^ 16)]
  rw [e1, e2]
  unfold kyM
  omega
theorem v_place {T : gk_S} {F : Nat} (k : Int64) : ∃ z, z < 16384 ∧ f_X12_placeOf F T k = some (nI z, T) := by
  unfold f_X12_placeOf
  rw [qv_eq]
  generalize (k * (-7046029254386353131)) = y
  have e : (y.toUInt64 >>> ((50 : Int32).toInt64.toUInt64 &&& Int64.toUInt64 63)).toInt64 = lN (y.toUInt64.toNat / 2 ^ 50) := by
    apply Int64.toBitVec_inj.mp
    apply BitVec.eq_of_toNat_eq
    have e1 : (y.toUInt64 >>> ((50 : Int32).toInt64.toUInt64 &&& Int64.toUInt64 63)).toInt64.toBitVec = y.toUInt64.toBitVec >>> 50 := rfl
    have lt : y.toUInt64.toNat < 2 ^ 64 := y.toUInt64.toBitVec.isLt
    have q : y.toUInt64.toNat / 2 ^ 50 ≤ y.toUInt64.toNat := Nat.div_le_self _ _
    rw [e1, BitVec.toNat_ushiftRight, Nat.shiftRight_eq_div_pow]
    show y.toUInt64.toNat / 2 ^ 50 = (BitVec.ofNat 64 (y.toUInt64.toNat / 2 ^ 50)).toNat
    rw [BitVec.toNat_ofNat, Nat.mod_eq_of_lt (by omega)]
  have lt : y.toUInt64.toNat < 2 ^ 64 := y.toUInt64.toBitVec.isLt
  refine ⟨y.toUInt64.toNat / 2 ^ 50, ?_, ?_⟩
  · rw [Nat.div_lt_iff_lt_mul (by decide)]
    exact lt
  · rw [e, lN_i]
/-! how often the search can turn -/
def bc (L : AL) (a f v : Nat) : Nat → Nat
  | 0 => 0
  | k + 1 => bc L a f v k + (if Nat.testBit a k = true ∧ v < (L.r k).lo f then 1 else 0) + (if Nat.testBit a k = true ∧ v ≤ (L.r k).hi f then 1 else 0)
theorem bc_le (L : AL) (a f v : Nat) : ∀ k, bc L a f v k ≤ 2 * k := by
  intro k
  induction k with
  | zero => exact Nat.le_refl _
  | succ k ih =>
    rw [bc]
    split <;> split <;> omega
theorem bc_mono (L : AL) (a f : Nat) {v w : Nat} (h : v ≤ w) : ∀ k, bc L a f w k ≤ bc L a f v k := by
  intro k
  induction k with
  | zero => exact Nat.le_refl _
  | succ k ih =>
    rw [bc, bc]
    have i1 : (if Nat.testBit a k = true ∧ w < (L.r k).lo f then 1 else 0) ≤ (if Nat.testBit a k = true ∧ v < (L.r k).lo f then 1 else 0) := by
      by_cases c : Nat.testBit a k = true ∧ w < (L.r k).lo f
      · rw [if_pos c, if_pos ⟨c.1, by omega⟩]; exact Nat.le_refl _
      · rw [if_neg c]; exact Nat.zero_le _
    have i2 : (if Nat.testBit a k = true ∧ w ≤ (L.r k).hi f then 1 else 0) ≤ (if Nat.testBit a k = true ∧ v ≤ (L.r k).hi f then 1 else 0) := by
      by_cases c : Nat.testBit a k = true ∧ w ≤ (L.r k).hi f
      · rw [if_pos c, if_pos ⟨c.1, by omega⟩]; exact Nat.le_refl _
      · rw [if_neg c]; exact Nat.zero_le _
    omega
theorem bc_lt (L : AL) (a f : Nat) {v w : Nat} (h : v ≤ w) {i : Nat} (ti : Nat.testBit a i = true) (hi : (v < (L.r i).lo f ∧ ¬ w < (L.r i).lo f) ∨ (v ≤ (L.r i).hi f ∧ ¬ w ≤ (L.r i).hi f)) : ∀ k, i < k → bc L a f w k < bc L a f v k := by
  intro k
  induction k with
  | zero => intro h; omega
  | succ k ih =>
    intro hk
    rw [bc, bc]
    have i1 : (if Nat.testBit a k = true ∧ w < (L.r k).lo f then 1 else 0) ≤ (if Nat.testBit a k = true ∧ v < (L.r k).lo f then 1 else 0) := by
      by_cases c : Nat.testBit a k = true ∧ w < (L.r k).lo f
      · rw [if_pos c, if_pos ⟨c.1, by omega⟩]; exact Nat.le_refl _
      · rw [if_neg c]; exact Nat.zero_le _
    have i2 : (if Nat.testBit a k = true ∧ w ≤ (L.r k).hi f then 1 else 0) ≤ (if Nat.testBit a k = true ∧ v ≤ (L.r k).hi f then 1 else 0) := by
      by_cases c : Nat.testBit a k = true ∧ w ≤ (L.r k).hi f
      · rw [if_pos c, if_pos ⟨c.1, by omega⟩]; exact Nat.le_refl _
      · rw [if_neg c]; exact Nat.zero_le _
    by_cases e : i = k
    · subst e
      have := bc_mono L a f h i
      rcases hi with ⟨q1, q2⟩ | ⟨q1, q2⟩
      · rw [if_neg (show ¬ (Nat.testBit a i = true ∧ w < (L.r i).lo f) from fun c => q2 c.2), if_pos (show Nat.testBit a i = true ∧ v < (L.r i).lo f from ⟨ti, q1⟩)]; omega
      · rw [if_neg (show ¬ (Nat.testBit a i = true ∧ w ≤ (L.r i).hi f) from fun c => q2 c.2), if_pos (show Nat.testBit a i = true ∧ v ≤ (L.r i).hi f from ⟨ti, q1⟩)]; omega
    · have := ih (by omega)
      omega
theorem bc_bp {L : AL} {a f v z : Nat} (h : BP L a f v z) (hz : v < z) : bc L a f z 16 < bc L a f v 16 := by
  obtain ⟨i, i1, i2, i3⟩ := h
  refine bc_lt L a f (by omega) i2 ?_ 16 i1
  rcases i3 with ⟨q1, q2⟩ | ⟨q1, q2⟩
  · exact Or.inl ⟨q1, by omega⟩
  · exact Or.inr ⟨q1, by omega⟩
