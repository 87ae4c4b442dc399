/-! bits of masks -/
theorem nI_or (a b : Nat) : nI a ||| nI b = nI (a ||| b) := by
  apply Int32.toBitVec_inj.mp
  apply BitVec.eq_of_getLsbD_eq
  intro i hi
  have e1 : (nI a ||| nI b).toBitVec = BitVec.ofNat 32 a ||| BitVec.ofNat 32 b := rfl
  have e2 : (nI (a ||| b)).toBitVec = BitVec.ofNat 32 (a ||| b) := rfl
  rw [e1, e2, BitVec.getLsbD_or, BitVec.getLsbD_ofNat, BitVec.getLsbD_ofNat, BitVec.getLsbD_ofNat, decide_eq_true hi, Nat.testBit_or]
  simp
theorem nI_and (a b : Nat) : nI a &&& nI b = nI (a &&& b) := by
  apply Int32.toBitVec_inj.mp
  apply BitVec.eq_of_getLsbD_eq
  intro i hi
  have e1 : (nI a &&& nI b).toBitVec = BitVec.ofNat 32 a &&& BitVec.ofNat 32 b := rfl
  have e2 : (nI (a &&& b)).toBitVec = BitVec.ofNat 32 (a &&& b) := rfl
  rw [e1, e2, BitVec.getLsbD_and, BitVec.getLsbD_ofNat, BitVec.getLsbD_ofNat, BitVec.getLsbD_ofNat, decide_eq_true hi, Nat.testBit_and]
  simp
theorem shl_1 : ∀ k, k < 31 → (1 : Int32) <<< (nI k &&& 31) = nI (2 ^ k) := by decide +kernel
theorem shl_2 : ∀ k, k < 16 → (2 : Int32) <<< (nI k &&& 31) = nI (2 ^ (k + 1)) := by decide +kernel
theorem nI_sshr {n k : Nat} (h : n < 2 ^ 31) (hk : k < 32) : nI n >>> (nI k &&& 31) = nI (n / 2 ^ k) := by
  apply Int32.toBitVec_inj.mp
  have e : ((nI k &&& 31).toBitVec.smod 32).toNat = k := by
    have : ∀ k, k < 32 → ((nI k &&& 31).toBitVec.smod 32).toNat = k := by decide +kernel
    exact this k hk
  show (BitVec.ofNat 32 n).sshiftRight' ((nI k &&& 31).toBitVec.smod 32) = BitVec.ofNat 32 (n / 2 ^ k)
  have q : n / 2 ^ k ≤ n := Nat.div_le_self _ _
  rw [BitVec.sshiftRight', e, BitVec.sshiftRight_eq_of_msb_false]
  · apply BitVec.eq_of_toNat_eq
    rw [BitVec.toNat_ushiftRight, BitVec.toNat_ofNat, BitVec.toNat_ofNat, Nat.shiftRight_eq_div_pow, Nat.mod_eq_of_lt (by omega), Nat.mod_eq_of_lt (by omega)]
  · rw [BitVec.msb_eq_decide, decide_eq_false]
    rw [BitVec.toNat_ofNat, Nat.mod_eq_of_lt (by omega)]
    omega
theorem tb_iff {a i : Nat} (ha : a < 2 ^ 31) (hi : i < 31) : ((nI a >>> (nI i &&& 31)) &&& 1 = 1 ↔ Nat.testBit a i = true) ∧ ((nI a >>> (nI i &&& 31)) &&& 1 = 0 ↔ Nat.testBit a i = false) := by
  have q : a / 2 ^ i ≤ a := Nat.div_le_self _ _
  have e : (nI a >>> (nI i &&& 31)) &&& 1 = nI (a / 2 ^ i % 2) := by
    rw [nI_sshr ha (by omega), show (1 : Int32) = nI 1 from rfl, nI_and, Nat.and_one_is_mod]
  have t : Nat.testBit a i = decide (a / 2 ^ i % 2 = 1) := by
    rw [Nat.testBit_eq_decide_div_mod_eq]
  have m : a / 2 ^ i % 2 < 2 := Nat.mod_lt _ (by decide)
  rw [e, t]
  generalize a / 2 ^ i % 2 = z at m
  have : z = 0 ∨ z = 1 := by omega
  rcases this with rfl | rfl <;> decide
/-- the mask of those below k that Q says -/
def bm (Q : Nat → Bool) : Nat → Nat
  | 0 => 0
  | k + 1 => bm Q k + if Q k = true then 2 ^ k else 0
theorem bm_lt (Q : Nat → Bool) : ∀ k, bm Q k < 2 ^ k := by
  intro k
  induction k with
  | zero => exact Nat.one_pos
  | succ k ih =>
    rw [bm, Nat.pow_succ]
    split <;> omega
theorem bm_s (Q : Nat → Bool) (k : Nat) : bm Q (k + 1) = bm Q k ||| if Q k = true then 2 ^ k else 0 := by
  have h := bm_lt Q k
  rw [bm]
  split
  · have := Nat.two_pow_add_eq_or_of_lt h 1
    rw [Nat.mul_one] at this
    rw [Nat.add_comm, this, Nat.or_comm]
  · rw [Nat.add_zero, Nat.or_zero]
theorem bm_t (Q : Nat → Bool) : ∀ k i, Nat.testBit (bm Q k) i = (decide (i < k) && Q i) := by
  intro k
  induction k with
  | zero => intro i; rw [bm, Nat.zero_testBit]; simp
  | succ k ih =>
    intro i
    rw [bm_s, Nat.testBit_or, ih]
    by_cases q : Q k = true
    · rw [if_pos q, Nat.testBit_two_pow]
      by_cases e : k = i
      · subst e
        rw [decide_eq_false (Nat.lt_irrefl _), decide_eq_true rfl, decide_eq_true (Nat.lt_succ_self _), q]; rfl
      · rw [decide_eq_false e, Bool.or_false]
        congr 1
        exact decide_eq_decide.mpr (by omega)
    · rw [if_neg q, Nat.zero_testBit, Bool.or_false]
      by_cases e : k = i
      · subst e
        rw [Bool.eq_false_iff.mpr q, Bool.and_false, Bool.and_false]
      · congr 1
        exact decide_eq_decide.mpr (by omega)
theorem tb_hi16 {a i : Nat} (h : a < 65536) (hi : 16 ≤ i) : Nat.testBit a i = false := by
  have : 2 ^ 16 ≤ 2 ^ i := Nat.pow_le_pow_right (show 0 < 2 by decide) hi
  exact Nat.testBit_lt_two_pow (by omega)
theorem mask_eq {a a' : Nat} (h1 : a < 65536) (h2 : a' < 65536) (h : ∀ i, i < 16 → Nat.testBit a i = Nat.testBit a' i) : a = a' := by
  apply Nat.eq_of_testBit_eq
  intro i
  by_cases q : i < 16
  · exact h i q
  · rw [tb_hi16 h1 (by omega), tb_hi16 h2 (by omega)]
/-- all below n -/
def lowm (n : Nat) : Nat := 2 ^ n - 1
theorem lowm_t (n i : Nat) : Nat.testBit (lowm n) i = decide (i < n) := by unfold lowm; rw [Nat.testBit_two_pow_sub_one]
theorem lowm_lt {n : Nat} (h : n ≤ 16) : lowm n < 65536 := by
  have := Nat.pow_le_pow_right (show 0 < 2 by decide) h
  have hp := Nat.two_pow_pos n
  unfold lowm
  omega
