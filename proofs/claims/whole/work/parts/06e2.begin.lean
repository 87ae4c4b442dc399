theorem k_xbegin {S : gk_S} (h : Sh S) {F q a tm : Nat} {c p : Nat → Nat} (q1 : 281 ≤ q) (q2 : q < 345) (pk : PK S a p) (bg : BG c p tm) : f_X0_begin F S q a = some ((), bgS S q c) := by
  obtain ⟨k1, k2, k3, k4, k5, k6, k7⟩ := pk
  obtain ⟨b0, b1, b2, b3, b4, b5, b6, b7, b8⟩ := bg
  have i1 : inb 1 6 = true := rfl
  have i2 : inb 2 6 = true := rfl
  have i3 : inb 3 6 = true := rfl
  have i4 : inb 4 6 = true := rfl
  have i5 : inb 5 6 = true := rfl
  have e1 : xJ S (a + 1) (1 : Int32).toNatClampNeg = lN (p 1) := k5 1 (by omega)
  have e2 : xJ S (a + 1) (2 : Int32).toNatClampNeg = lN (p 2) := k5 2 (by omega)
  have e3 : xJ S (a + 1) (3 : Int32).toNatClampNeg = lN (p 3) := k5 3 (by omega)
  have e4 : xJ S (a + 1) (4 : Int32).toNatClampNeg = lN (p 4) := k5 4 (by omega)
  have e5 : xJ S (a + 1) (5 : Int32).toNatClampNeg = lN (p 5) := k5 5 (by omega)
  have w1 := k7.2.1
  have g0 : ∀ x1 x2 x3 x4 : Int64, gI (sJ (sJ (sJ (sJ (sI S 0 q (nI (p 1))) 1 q x1) 2 q x2) 3 q x3) 4 q x4) 0 q = nI (p 1) := by
    intro x1 x2 x3 x4
    simp only [gI_sJ, gI_sI, and_self, if_true]
  have e9 : nI (c 5) = if p 1 = 6 then 1 else 0 := by
    rw [b5]
    unfold ph0
    by_cases e : p 1 = 6
    · rw [if_pos e, if_pos e]; rfl
    · rw [if_neg e, if_neg e]; rfl
  simp only [f_X0_begin, qk_true, qk_false, qv_eq, qP_some', qP_none, qc_some', qc_none, qx_inl', qx_inr', qh_inl', qh_inr', k1, k2, k3, k4, i1, i2, i3, i4, i5, aJ, e1, e2, e3, e4, e5, lN_i, z_c h q1 q2, isb_sI, isb_sJ, gP_sI, gP_sJ, gL_sI, gL_sJ, xJ_sI, xJ_sJ, g0, show nI (p 1) = 6 ↔ p 1 = 6 from nI_eq (b := 6) (by omega) (by omega), f_X0_begin_66, bgS, b0, b1, b2, b3, b4, e9]
  by_cases e : p 1 = 6
  · simp only [if_pos e]
  · simp only [if_neg e]
