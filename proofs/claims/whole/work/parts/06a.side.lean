/-! whose a packet is -/
theorem n32_eq {a b : Nat} (ha : a < 4294967296) (hb : b < 4294967296) : nI a = nI b ↔ a = b := by
  constructor
  · intro e
    have := congrArg un e
    rw [un_nI ha, un_nI hb] at this
    exact this
  · intro e; rw [e]
theorem l_shr8 {n : Nat} (h : n < 2 ^ 62) : (lN n >>> ((8 : Int32).toInt64 &&& 63)) = lN (n / 256) := by
  apply Int64.toBitVec_inj.mp
  have e : (((8 : Int32).toInt64 &&& 63).toBitVec.smod 64).toNat = 8 := by decide
  show (BitVec.ofNat 64 n).sshiftRight' (((8 : Int32).toInt64 &&& 63).toBitVec.smod 64) = BitVec.ofNat 64 (n / 256)
  rw [BitVec.sshiftRight', e, BitVec.sshiftRight_eq_of_msb_false]
  · apply BitVec.eq_of_toNat_eq
    rw [BitVec.toNat_ushiftRight, BitVec.toNat_ofNat, BitVec.toNat_ofNat, Nat.shiftRight_eq_div_pow, Nat.mod_eq_of_lt (by omega), Nat.mod_eq_of_lt (by omega)]
  · rw [BitVec.msb_eq_decide, decide_eq_false]
    rw [BitVec.toNat_ofNat, Nat.mod_eq_of_lt (by omega)]
    omega
def sideR (f b : Bool) : Nat := if f = true then 1 else if b = true then 2 else 0
def sideN (c p : Nat → Nat) : Nat := if p 1 = c 0 then (if c 0 = 1 then sideR (decide (p 2 = c 1) && decide (p 3 = c 2) && decide (p 4 / 256 = 8) && decide (p 5 = c 4)) (decide (p 2 = c 2) && decide (p 3 = c 1) && decide (p 4 / 256 = 0) && decide (p 5 = c 4)) else sideR (decide (p 2 = c 1) && decide (p 3 = c 2) && decide (p 4 = c 3) && decide (p 5 = c 4)) (decide (p 2 = c 2) && decide (p 3 = c 1) && decide (p 4 = c 4) && decide (p 5 = c 3))) else 0
theorem sideN_le (c p : Nat → Nat) : sideN c p ≤ 2 := by
  have : ∀ f b, sideR f b ≤ 2 := by decide
  unfold sideN
  by_cases q : p 1 = c 0
  · rw [if_pos q]
    by_cases q1 : c 0 = 1
    · rw [if_pos q1]; exact this _ _
    · rw [if_neg q1]; exact this _ _
  · rw [if_neg q]; omega
/-- a packet of the class: a, its row behind it -/
def PK (S : gk_S) (a : Nat) (p : Nat → Nat) : Prop := isb S a 2 = true ∧ gP S 200 a = some (a + 1) ∧ isb S (a + 1) 12 = true ∧ gL S (a + 1) = 6 ∧ (∀ f, f < 6 → xJ S (a + 1) f = lN (p f)) ∧ gI S 201 a = nI (p 6) ∧ WP p
section SIDE
variable {S : gk_S} {F q a : Nat} {c p : Nat → Nat}
theorem bI0 (b : Bool) : bI b = 0 ↔ b = false := by cases b <;> decide
theorem b_t : bI true = 1 := rfl
theorem b_f : bI false = 0 := rfl
theorem k_s232 (f b : Bool) : f_X0_sideOf_232 F (bI f) (bI b) S = some (nI (sideR f b), S) := by
  cases f <;> cases b <;> rfl
theorem k_s193 (h : Sh S) (q1 : 281 ≤ q) (q2 : q < 345) (cc : CC S q c) (wc : WC c) (pk : PK S a p) (f b : Bool) : f_X0_sideOf_193 F q a (bI b) (bI f) S = some (nI (sideR f (b && decide (p 4 = c 4) && decide (p 5 = c 3))), S) := by
  obtain ⟨k1, k2, k3, k4, k5, k6, k7⟩ := pk
  have i4 : inb 4 6 = true := rfl
  have i5 : inb 5 6 = true := rfl
  have e4 : aJ S (a + 1) 4 = lN (p 4) := k5 4 (by omega)
  have e5 : aJ S (a + 1) 5 = lN (p 5) := k5 5 (by omega)
  obtain ⟨w0, w1, w2, w3, w4, w5, w6⟩ := k7
  obtain ⟨v0, v1, v2, v3, v4, v5⟩ := wc
  unfold f_X0_sideOf_193
  cases b
  · rw [if_pos b_f]
    exact k_s232 f false
  · rw [if_neg (by decide)]
    simp only [qk_true, qk_false, qv_eq, qP_some', qP_none, qc_some', qc_none, qx_inl', qx_inr', qh_inl', qh_inr', k1, k2, k3, k4, i4, i5, e4, e5, z_c h q1 q2, cc.2.2.2.1, cc.2.2.2.2.1, l_eq (by omega : p 4 < 2 ^ 63) (by omega : c 4 < 2 ^ 63), l_eq (by omega : p 5 < 2 ^ 63) (by omega : c 3 < 2 ^ 63), Bool.true_and]
    by_cases a1 : p 4 = c 4
    · rw [if_pos a1, decide_eq_true a1]
      by_cases a2 : p 5 = c 3
      · rw [if_pos a2, decide_eq_true a2]; exact k_s232 f true
      · rw [if_neg a2, decide_eq_false a2]; exact k_s232 f false
    · rw [if_neg a1, decide_eq_false a1]; exact k_s232 f false
theorem k_icmp (pk : PK S a p) : f_X3_icmpType F S a = some (nI (p 4 / 256), S) := by
  obtain ⟨k1, k2, k3, k4, k5, k6, k7⟩ := pk
  have i4 : inb 4 6 = true := rfl
  have e4 : aJ S (a + 1) 4 = lN (p 4) := k5 4 (by omega)
  obtain ⟨w0, w1, w2, w3, w4, w5, w6⟩ := k7
  simp only [f_X3_icmpType, qk_true, qk_false, qv_eq, qP_some', qP_none, qc_some', qc_none, qx_inl', qx_inr', qh_inl', qh_inr', k1, k2, k3, k4, i4, e4, l_shr8 (by omega : p 4 < 2 ^ 62), lN_i]
theorem k_isOf (pk : PK S a p) {n : Nat} (hn : n < 2 ^ 31) : f_X3_isOf F S a (nI n) = some (bI (decide (p 1 = n)), S) := by
  obtain ⟨k1, k2, k3, k4, k5, k6, k7⟩ := pk
  have i1 : inb 1 6 = true := rfl
  have e1 : aJ S (a + 1) 1 = lN (p 1) := k5 1 (by omega)
  obtain ⟨w0, w1, w2, w3, w4, w5, w6⟩ := k7
  simp only [f_X3_isOf, qk_true, qk_false, qv_eq, qP_some', qP_none, qc_some', qc_none, qx_inl', qx_inr', qh_inl', qh_inr', k1, k2, k3, k4, i1, e1, nI_l hn, l_eq (by omega : p 1 < 2 ^ 63) (by omega : n < 2 ^ 63)]
  by_cases a1 : p 1 = n
  · rw [if_pos a1, decide_eq_true a1]; rfl
  · rw [if_neg a1, decide_eq_false a1]; rfl
theorem k_s121 (h : Sh S) (q1 : 281 ≤ q) (q2 : q < 345) (cc : CC S q c) (wc : WC c) (pk : PK S a p) (f b : Bool) : f_X0_sideOf_121 F q a (bI b) (bI f) S = some (nI (sideR f (b && decide (p 4 / 256 = 0) && decide (p 5 = c 4))), S) := by
  have ic := k_icmp (F := F) pk
  obtain ⟨k1, k2, k3, k4, k5, k6, k7⟩ := pk
  have i5 : inb 5 6 = true := rfl
  have e5 : aJ S (a + 1) 5 = lN (p 5) := k5 5 (by omega)
  obtain ⟨w0, w1, w2, w3, w4, w5, w6⟩ := k7
  obtain ⟨v0, v1, v2, v3, v4, v5⟩ := wc
  unfold f_X0_sideOf_121
  cases b
  · rw [if_pos b_f]
    exact k_s232 f false
  · rw [if_neg (by decide)]
    simp only [qk_true, qk_false, qv_eq, qP_some', qP_none, qc_some', qc_none, qx_inl', qx_inr', qh_inl', qh_inr', k1, k2, k3, k4, i5, ic, e5, z_c h q1 q2, cc.2.2.2.2.1, l_eq (by omega : p 5 < 2 ^ 63) (by omega : c 4 < 2 ^ 63), Bool.true_and, show nI (p 4 / 256) = 0 ↔ p 4 / 256 = 0 from nI_eq (b := 0) (by omega) (by omega)]
    by_cases a1 : p 4 / 256 = 0
    · rw [if_pos a1, decide_eq_true a1]
      by_cases a2 : p 5 = c 4
      · rw [if_pos a2, decide_eq_true a2]; exact k_s232 f true
      · rw [if_neg a2, decide_eq_false a2]; exact k_s232 f false
    · rw [if_neg a1, decide_eq_false a1]; exact k_s232 f false
theorem k_s80 (h : Sh S) (q1 : 281 ≤ q) (q2 : q < 345) (cc : CC S q c) (wc : WC c) (pk : PK S a p) (f b : Bool) : f_X0_sideOf_80 F q a (bI f) (bI b) S = some (nI (if c 0 = 1 then sideR (f && decide (p 4 / 256 = 8) && decide (p 5 = c 4)) (b && decide (p 4 / 256 = 0) && decide (p 5 = c 4)) else sideR (f && decide (p 4 = c 3) && decide (p 5 = c 4)) (b && decide (p 4 = c 4) && decide (p 5 = c 3))), S) := by
  have ic := k_icmp (F := F) pk
  have s121 := fun f => k_s121 (F := F) h q1 q2 cc wc pk f b
  have s193 := fun f => k_s193 (F := F) h q1 q2 cc wc pk f b
  obtain ⟨k1, k2, k3, k4, k5, k6, k7⟩ := pk
  have i4 : inb 4 6 = true := rfl
  have i5 : inb 5 6 = true := rfl
  have e4 : aJ S (a + 1) 4 = lN (p 4) := k5 4 (by omega)
  have e5 : aJ S (a + 1) 5 = lN (p 5) := k5 5 (by omega)
  obtain ⟨w0, w1, w2, w3, w4, w5, w6⟩ := k7
  obtain ⟨v0, v1, v2, v3, v4, v5⟩ := wc
  simp only [f_X0_sideOf_80, qk_true, qk_false, qv_eq, qP_some', qP_none, qc_some', qc_none, qx_inl', qx_inr', qh_inl', qh_inr', z_c h q1 q2, cc.1, show nI (c 0) = 1 ↔ c 0 = 1 from nI_eq (b := 1) (by omega) (by omega), k1, k2, k3, k4, i4, i5, ic, e4, e5, cc.2.2.2.1, cc.2.2.2.2.1, l_eq (by omega : p 4 < 2 ^ 63) (by omega : c 3 < 2 ^ 63), l_eq (by omega : p 5 < 2 ^ 63) (by omega : c 4 < 2 ^ 63), show nI (p 4 / 256) = 8 ↔ p 4 / 256 = 8 from nI_eq (b := 8) (by omega) (by omega)]
  by_cases c1 : c 0 = 1
  · rw [if_pos c1, if_pos c1]
    cases f
    · rw [if_pos b_f]; exact s121 false
    · rw [if_neg (by decide)]
      by_cases a1 : p 4 / 256 = 8
      · rw [if_pos a1, decide_eq_true a1]
        by_cases a2 : p 5 = c 4
        · rw [if_pos a2, decide_eq_true a2]
          have := s121 true
          rw [decide_eq_true a2] at this
          exact this
        · rw [if_neg a2]
          have := s121 false
          rw [decide_eq_false a2] at this ⊢
          exact this
      · rw [if_neg a1, decide_eq_false a1]; exact s121 false
  · rw [if_neg c1, if_neg c1]
    cases f
    · rw [if_pos b_f]; exact s193 false
    · rw [if_neg (by decide)]
      by_cases a1 : p 4 = c 3
      · rw [if_pos a1, decide_eq_true a1]
        by_cases a2 : p 5 = c 4
        · rw [if_pos a2, decide_eq_true a2]; exact s193 true
        · rw [if_neg a2, decide_eq_false a2]; exact s193 false
      · rw [if_neg a1, decide_eq_false a1]; exact s193 false
theorem k_side (h : Sh S) (q1 : 281 ≤ q) (q2 : q < 345) (cc : CC S q c) (wc : WC c) (pk : PK S a p) : f_X0_sideOf F S q a = some (nI (sideN c p), S) := by
  have s80 := fun f b => k_s80 (F := F) h q1 q2 cc wc pk f b
  have io := fun n hn => k_isOf (F := F) pk (n := n) hn
  obtain ⟨k1, k2, k3, k4, k5, k6, k7⟩ := pk
  have i2 : inb 2 6 = true := rfl
  have i3 : inb 3 6 = true := rfl
  have e2 : aJ S (a + 1) 2 = lN (p 2) := k5 2 (by omega)
  have e3 : aJ S (a + 1) 3 = lN (p 3) := k5 3 (by omega)
  obtain ⟨w0, w1, w2, w3, w4, w5, w6⟩ := k7
  obtain ⟨v0, v1, v2, v3, v4, v5⟩ := wc
  have s46 : ∀ f, f_X0_sideOf_46 F q a (bI f) S = f_X0_sideOf_80 F q a (bI f) (bI (decide (p 2 = c 2) && decide (p 3 = c 1))) S := by
    intro f
    simp only [f_X0_sideOf_46, qk_true, qk_false, qv_eq, qP_some', qP_none, qc_some', qc_none, qx_inl', qx_inr', qh_inl', qh_inr', k1, k2, k3, k4, i2, i3, e2, e3, z_c h q1 q2, cc.2.1, cc.2.2.1, l_eq (by omega : p 2 < 2 ^ 63) (by omega : c 2 < 2 ^ 63), l_eq (by omega : p 3 < 2 ^ 63) (by omega : c 1 < 2 ^ 63)]
    by_cases a1 : p 2 = c 2
    · rw [if_pos a1, decide_eq_true a1]
      by_cases a2 : p 3 = c 1
      · rw [if_pos a2, decide_eq_true a2]; rfl
      · rw [if_neg a2, decide_eq_false a2]; rfl
    · rw [if_neg a1, decide_eq_false a1]; rfl
  simp only [f_X0_sideOf, qk_true, qk_false, qv_eq, qP_some', qP_none, qc_some', qc_none, qx_inl', qx_inr', qh_inl', qh_inr', z_c h q1 q2, cc.1, k1, io (c 0) (by omega), k2, k3, k4, i2, i3, e2, e3, cc.2.1, cc.2.2.1, l_eq (by omega : p 2 < 2 ^ 63) (by omega : c 1 < 2 ^ 63), l_eq (by omega : p 3 < 2 ^ 63) (by omega : c 2 < 2 ^ 63), bI0, sideN]
  by_cases a0 : p 1 = c 0
  · rw [if_neg (by rw [decide_eq_true a0]; decide), if_pos a0]
    have fin : ∀ f, f_X0_sideOf_46 F q a (bI f) S = _ := fun f => (s46 f).trans (s80 f _)
    by_cases a1 : p 2 = c 1
    · rw [if_pos a1, decide_eq_true a1]
      by_cases a2 : p 3 = c 2
      · rw [if_pos a2, decide_eq_true a2]; exact fin true
      · rw [if_neg a2, decide_eq_false a2]; exact fin false
    · rw [if_neg a1, decide_eq_false a1]; exact fin false
  · rw [if_pos (decide_eq_false a0), if_neg a0]
    rfl
end SIDE
