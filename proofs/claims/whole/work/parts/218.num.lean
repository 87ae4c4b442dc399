/-! NUMBERS -/
theorem i_lt (a b : Int32) : a < b ↔ a.toInt < b.toInt := Int32.lt_iff_toInt_lt
theorem i_le (a b : Int32) : a ≤ b ↔ a.toInt ≤ b.toInt := Int32.le_iff_toInt_le
theorem i_0 : (0 : Int32).toInt = 0 := rfl
theorem i_rng (x : Int32) : -2147483648 ≤ x.toInt ∧ x.toInt < 2147483648 := ⟨Int32.le_toInt x, Int32.toInt_lt x⟩
theorem i_n {n : Nat} (h : n < 2147483648) : (nI n).toInt = (n : Int) := nI_toInt h
theorem i_clamp {x : Int32} (h : 0 ≤ x.toInt) : (x.toNatClampNeg : Int) = x.toInt := by
  show ((x.toInt.toNat : Nat) : Int) = x.toInt
  omega
theorem i_of {x : Int32} {n : Nat} (h : x.toInt = (n : Int)) : x = nI n := by
  have hr := i_rng x
  apply Int32.toInt_inj.mp
  rw [i_n (by omega), h]
theorem i_in {x : Int32} {n : Nat} (h0 : 0 ≤ x.toInt) (h1 : x.toInt < (n : Int)) : vp_in x n := vp_in_iff.mpr ⟨h0, h1⟩
theorem i_in' {x : Int32} {n m : Nat} (h0 : ¬ x < 0) (h1 : ¬ nI m ≤ x) (hm : m < 2147483648) (hn : m ≤ n) : vp_in x n := by
  rw [i_lt, i_0] at h0
  rw [i_le, i_n hm] at h1
  exact i_in (by omega) (by omega)
theorem nI_addI (a b : Nat) : nI a + nI b = nI (a + b) := nI_add a b
theorem i_lit (n : Nat) : (OfNat.ofNat n : Int32) = nI n := rfl
theorem nI_inj {a b : Nat} (ha : a < 2147483648) (hb : b < 2147483648) (h : nI a = nI b) : a = b := (nI_eq ha hb).mp h
theorem i_clampN {n : Nat} (h : n < 2147483648) : (nI n).toNatClampNeg = n := nI_clamp h
/-! A ROW OF BYTES -/
/-- what at(k) answers of the bytes f, m of them -/
def oc_at (f : Nat → Int32) (m : Nat) (k : Int32) : Int32 := if 0 ≤ k.toInt ∧ k.toInt < m then f k.toNatClampNeg &&& 255 else 0
theorem oc_at_lt {f : Nat → Int32} {m : Nat} {k : Int32} (h : k < 0) : oc_at f m k = 0 := by
  rw [i_lt, i_0] at h
  exact if_neg (by omega)
theorem oc_at_ge {f : Nat → Int32} {m : Nat} {k : Int32} (hm : m < 2147483648) (h : nI m ≤ k) : oc_at f m k = 0 := by
  rw [i_le, i_n hm] at h
  exact if_neg (by omega)
theorem oc_at_in {f : Nat → Int32} {m : Nat} {k : Int32} (hm : m < 2147483648) (h0 : ¬ k < 0) (h : ¬ nI m ≤ k) : oc_at f m k = f k.toNatClampNeg &&& 255 := by
  rw [i_le, i_n hm] at h
  rw [i_lt, i_0] at h0
  exact if_pos (by omega)
theorem oc_at_n {f : Nat → Int32} {m i : Nat} (hm : m < 2147483648) (h : i < m) : oc_at f m (nI i) = f i &&& 255 := by
  unfold oc_at
  rw [i_n (by omega), i_clampN (by omega)]
  exact if_pos (by omega)
/-- an Octets a, its row b of n bytes, m of them in use -/
def Oc (S : gk_S) (a b n m : Nat) : Prop := gk_is S a 1 ∧ gP S 100 a = some b ∧ gk_is S b 10 ∧ gL S b = n ∧ gI S 101 a = nI m ∧ m ≤ n ∧ n < 1000000
