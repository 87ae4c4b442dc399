/-! bits that the class's search asks for -/
theorem and_ext {v : Int32} {n : Nat} (h : ∀ i, i < 32 → v.toBitVec.getLsbD i = Nat.testBit n i) : v = nI n := by
  apply Int32.toBitVec_inj.mp
  apply BitVec.eq_of_getLsbD_eq
  intro i hi
  have e : (nI n).toBitVec = BitVec.ofNat 32 n := rfl
  rw [h i hi, e, BitVec.getLsbD_ofNat, decide_eq_true hi, Bool.true_and]
theorem nI_bit (n : Nat) {i : Nat} (hi : i < 32) : (nI n).toBitVec.getLsbD i = Nat.testBit n i := by
  have e : (nI n).toBitVec = BitVec.ofNat 32 n := rfl
  rw [e, BitVec.getLsbD_ofNat, decide_eq_true hi, Bool.true_and]
/-- the lowest bit -/
theorem low_ex : ∀ n, 0 < n → ∃ w m, n = 2 ^ (w + 1) * m + 2 ^ w := by
  intro n
  induction n using Nat.strongRecOn with
  | ind n ih =>
    intro h
    by_cases c : n % 2 = 1
    · exact ⟨0, n / 2, by omega⟩
    · obtain ⟨w, m, e⟩ := ih (n / 2) (by omega) (by omega)
      refine ⟨w + 1, m, ?_⟩
      have : n = 2 * (n / 2) := by omega
      rw [this, e, Nat.mul_add, ← Nat.mul_assoc, Nat.pow_succ 2 (w + 1), Nat.pow_succ 2 w]
      congr 1
      · rw [Nat.mul_comm 2]
      · rw [Nat.mul_comm]
theorem low_bits {n w m : Nat} (e : n = 2 ^ (w + 1) * m + 2 ^ w) : Nat.testBit n w = true ∧ (∀ j, j < w → Nat.testBit n j = false) ∧ ∀ i, (Nat.testBit n i && !(Nat.testBit (n - 1) i)) = decide (i = w) := by
  have hp := Nat.two_pow_pos w
  have hp1 : 2 ^ w < 2 ^ (w + 1) := by rw [Nat.pow_succ]; omega
  have t : ∀ i, Nat.testBit n i = if i < w + 1 then Nat.testBit (2 ^ w) i else Nat.testBit m (i - (w + 1)) := fun i => by rw [e, Nat.testBit_two_pow_mul_add _ hp1]
  have t1 : ∀ i, Nat.testBit (n - 1) i = if i < w + 1 then Nat.testBit (2 ^ w - 1) i else Nat.testBit m (i - (w + 1)) := fun i => by
    rw [show n - 1 = 2 ^ (w + 1) * m + (2 ^ w - 1) by omega, Nat.testBit_two_pow_mul_add _ (by omega)]
  refine ⟨?_, fun j hj => ?_, fun i => ?_⟩
  · rw [t, if_pos (by omega), Nat.testBit_two_pow, decide_eq_true rfl]
  · rw [t, if_pos (by omega), Nat.testBit_two_pow, decide_eq_false (by omega)]
  · rw [t, t1]
    by_cases c : i < w + 1
    · rw [if_pos c, if_pos c, Nat.testBit_two_pow, Nat.testBit_two_pow_sub_one]
      by_cases c2 : i = w
      · subst c2
        rw [decide_eq_true rfl, decide_eq_false (Nat.lt_irrefl _)]; rfl
      · rw [decide_eq_false (show ¬ w = i by omega), decide_eq_false c2]; rfl
    · rw [if_neg c, if_neg c, decide_eq_false (by omega)]
      cases Nat.testBit m (i - (w + 1)) <;> rfl
theorem neg_low {n w m : Nat} (hn : n < 65536) (e : n = 2 ^ (w + 1) * m + 2 ^ w) : nI n &&& (-(nI n)) = nI (2 ^ w) := by
  have hp := Nat.two_pow_pos w
  have n0 : 0 < n := by omega
  have neg : -(nI n) = nI (2 ^ 32 - n) := by
    apply Int32.toBitVec_inj.mp
    apply BitVec.eq_of_toNat_eq
    have e1 : (-(nI n)).toBitVec = -(BitVec.ofNat 32 n) := rfl
    have e2 : (nI (2 ^ 32 - n)).toBitVec = BitVec.ofNat 32 (2 ^ 32 - n) := rfl
    rw [e1, e2, BitVec.toNat_neg, BitVec.toNat_ofNat, BitVec.toNat_ofNat, Nat.mod_eq_of_lt (show n < 2 ^ 32 by omega)]
  rw [neg, nI_and]
  congr 1
  apply Nat.eq_of_testBit_eq
  intro i
  have lb := (low_bits e).2.2 i
  rw [Nat.testBit_and, Nat.testBit_two_pow]
  by_cases hi : i < 32
  · have t : Nat.testBit (2 ^ 32 - n) i = !(Nat.testBit (n - 1) i) := by
      have := Nat.testBit_two_pow_sub_succ (x := n - 1) (n := 32) (by omega) i
      rw [show n - 1 + 1 = n by omega, decide_eq_true hi, Bool.true_and] at this
      exact this
    rw [t, lb]
    exact decide_eq_decide.mpr (by omega)
  · have : Nat.testBit n i = false := tb_hi16 hn (by omega)
    rw [this, Bool.false_and]
    symm
    apply decide_eq_false
    intro ew
    have := (low_bits e).1
    rw [ew] at this
    rw [tb_hi16 hn (by omega)] at this
    exact absurd this (by decide)
/-- without -/
theorem and_not (a x : Nat) (ha : a < 65536) : nI a &&& (nI x ^^^ (-1)) = nI (bm (fun i => Nat.testBit a i && !(Nat.testBit x i)) 16) := by
  apply and_ext
  intro i hi
  have e1 : (nI a &&& (nI x ^^^ (-1))).toBitVec = (nI a).toBitVec &&& ((nI x).toBitVec ^^^ BitVec.allOnes 32) := rfl
  rw [e1, BitVec.getLsbD_and, BitVec.getLsbD_xor, nI_bit a hi, nI_bit x hi, BitVec.getLsbD_allOnes, decide_eq_true hi, bm_t]
  by_cases c : i < 16
  · rw [decide_eq_true c]; simp
  · rw [decide_eq_false c, tb_hi16 ha (by omega)]; simp
theorem ushr_n {n k : Nat} (hn : n < 2 ^ 32) (hk : k < 32) : ((nI n).toUInt32 >>> ((nI k).toUInt32 &&& Int32.toUInt32 31)).toInt32 = nI (n / 2 ^ k) := by
  apply Int32.toBitVec_inj.mp
  apply BitVec.eq_of_toNat_eq
  have e1 : (((nI n).toUInt32 >>> ((nI k).toUInt32 &&& Int32.toUInt32 31)).toInt32).toBitVec = (BitVec.ofNat 32 n) >>> (((nI k).toUInt32 &&& Int32.toUInt32 31).toBitVec % 32) := rfl
  have e2 : (nI (n / 2 ^ k)).toBitVec = BitVec.ofNat 32 (n / 2 ^ k) := rfl
  have q : n / 2 ^ k ≤ n := Nat.div_le_self _ _
  have k32 : ((((nI k).toUInt32 &&& Int32.toUInt32 31).toBitVec % 32)).toNat = k := by
    have : ∀ k, k < 32 → ((((nI k).toUInt32 &&& Int32.toUInt32 31).toBitVec % 32)).toNat = k := by decide +kernel
    exact this k hk
  rw [e1, e2, BitVec.ushiftRight_eq', BitVec.toNat_ushiftRight, k32, BitVec.toNat_ofNat, BitVec.toNat_ofNat, Nat.mod_eq_of_lt hn, Nat.mod_eq_of_lt (by omega), Nat.shiftRight_eq_div_pow]
/-- up to the highest -/
theorem up_hi {T : gk_S} {F o : Nat} (ho : o < 65536) : ∃ u, f_X7_upToHighest F T (nI o) = some (nI u, T) ∧ u < 2 ^ 32 ∧ ∀ i, i < 16 → (Nat.testBit u i = true ↔ ∃ k, i ≤ k ∧ k < 16 ∧ Nat.testBit o k = true) := by
  have s1 := ushr_n (n := o) (k := 1) (by omega) (by omega)
  obtain ⟨r1, h1⟩ : ∃ r, r = o ||| o / 2 ^ 1 := ⟨_, rfl⟩
  have b1 : r1 < 65536 := by rw [h1]; exact Nat.or_lt_two_pow (n := 16) ho (by omega)
  have s2 := ushr_n (n := r1) (k := 2) (by omega) (by omega)
  obtain ⟨r2, h2⟩ : ∃ r, r = r1 ||| r1 / 2 ^ 2 := ⟨_, rfl⟩
  have b2 : r2 < 65536 := by rw [h2]; exact Nat.or_lt_two_pow (n := 16) b1 (by omega)
  have s3 := ushr_n (n := r2) (k := 4) (by omega) (by omega)
  obtain ⟨r3, h3⟩ : ∃ r, r = r2 ||| r2 / 2 ^ 4 := ⟨_, rfl⟩
  have b3 : r3 < 65536 := by rw [h3]; exact Nat.or_lt_two_pow (n := 16) b2 (by omega)
  have s4 := ushr_n (n := r3) (k := 8) (by omega) (by omega)
  obtain ⟨r4, h4⟩ : ∃ r, r = r3 ||| r3 / 2 ^ 8 := ⟨_, rfl⟩
  have b4 : r4 < 65536 := by rw [h4]; exact Nat.or_lt_two_pow (n := 16) b3 (by omega)
  refine ⟨r4, ?_, by omega, fun i hi => ?_⟩
  · unfold f_X7_upToHighest
    have e1 : nI o ||| nI (o / 2 ^ 1) = nI r1 := by rw [nI_or, h1]
    have e2 : nI r1 ||| nI (r1 / 2 ^ 2) = nI r2 := by rw [nI_or, h2]
    have e3 : nI r2 ||| nI (r2 / 2 ^ 4) = nI r3 := by rw [nI_or, h3]
    have e4 : nI r3 ||| nI (r3 / 2 ^ 8) = nI r4 := by rw [nI_or, h4]
    have s1' : ((nI o).toUInt32 >>> ((1 : Int32).toUInt32 &&& Int32.toUInt32 31)).toInt32 = nI (o / 2 ^ 1) := s1
    have s2' : ((nI r1).toUInt32 >>> ((2 : Int32).toUInt32 &&& Int32.toUInt32 31)).toInt32 = nI (r1 / 2 ^ 2) := s2
    have s3' : ((nI r2).toUInt32 >>> ((4 : Int32).toUInt32 &&& Int32.toUInt32 31)).toInt32 = nI (r2 / 2 ^ 4) := s3
    have s4' : ((nI r3).toUInt32 >>> ((8 : Int32).toUInt32 &&& Int32.toUInt32 31)).toInt32 = nI (r3 / 2 ^ 8) := s4
    rw [qv_eq, s1', e1, qv_eq, s2', e2, qv_eq, s3', e3, qv_eq, qv_eq, s4', e4]
  · have t1 : ∀ i, Nat.testBit r1 i = true ↔ ∃ k, i ≤ k ∧ k < i + 2 ∧ Nat.testBit o k = true := by
      intro i
      rw [h1, Nat.testBit_or, Nat.testBit_div_two_pow, Bool.or_eq_true]
      constructor
      · rintro (q | q)
        · exact ⟨i, Nat.le_refl _, by omega, q⟩
        · exact ⟨i + 1, by omega, by omega, q⟩
      · rintro ⟨k, k1, k2, k3⟩
        by_cases c : k = i
        · rw [c] at k3; exact Or.inl k3
        · rw [show k = i + 1 by omega] at k3; exact Or.inr k3
    have st : ∀ (r r' s : Nat), (∀ i, Nat.testBit r i = true ↔ ∃ k, i ≤ k ∧ k < i + s ∧ Nat.testBit o k = true) → r' = r ||| r / 2 ^ s → ∀ i, Nat.testBit r' i = true ↔ ∃ k, i ≤ k ∧ k < i + (s + s) ∧ Nat.testBit o k = true := by
      intro r r' s hr e i
      rw [e, Nat.testBit_or, Nat.testBit_div_two_pow, Bool.or_eq_true, hr, hr]
      constructor
      · rintro (⟨k, k1, k2, k3⟩ | ⟨k, k1, k2, k3⟩)
        · exact ⟨k, k1, by omega, k3⟩
        · exact ⟨k, by omega, by omega, k3⟩
      · rintro ⟨k, k1, k2, k3⟩
        by_cases c : k < i + s
        · exact Or.inl ⟨k, k1, c, k3⟩
        · exact Or.inr ⟨k, by omega, by omega, k3⟩
    have t4 := st r3 r4 8 (st r2 r3 4 (st r1 r2 2 t1 h2) h3) h4
    rw [t4]
    constructor
    · rintro ⟨k, k1, k2, k3⟩
      refine ⟨k, k1, ?_, k3⟩
      rcases Nat.lt_or_ge k 16 with q | q
      · exact q
      · rw [tb_hi16 ho q] at k3; exact absurd k3 (by decide)
    · rintro ⟨k, k1, k2, k3⟩
      exact ⟨k, k1, by omega, k3⟩
