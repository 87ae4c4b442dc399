theorem two_ne : ¬ (2 : Int32) = 0 := by decide
theorem nge {p : Int32} {n : Nat} (hn : n < 2 ^ 31) (h : nI (n + 1) ≤ p) (hn2 : n + 1 < 2 ^ 31) : ¬ p ≤ nI n := by
  intro h2
  rw [Int32.le_iff_toInt_le] at h2 h
  rw [nI_toInt hn2] at h
  rw [nI_toInt hn] at h2
  omega
theorem lN_i' (n : Nat) : (lN n).toInt32 = nI n := lN_i n
theorem k_rul' {S : gk_S} {F r : Nat} (h : Sh S) (hr : Ba r) {n : Nat} (hn : gI S 401 r = nI n) {i : Int32} (hi : i < 0 ∨ nI n ≤ i) : f_X11_checkRule F S r i = some (.inr gx_E, cS S) := by
  unfold f_X11_checkRule f_X11_checkRule_12
  by_cases q : i < 0
  · rw [if_pos q]
  · rw [if_neg q]
    simp only [qk_true, qk_false, qv_eq, qP_some', qP_none, qc_some', qc_none, qx_inl', qx_inr', qh_inl', qh_inr', z_r h hr, hn, show ¬ i < nI n from Int32.not_lt.mpr (hi.resolve_left q), if_false]
theorem k_rul {S : gk_S} {F r : Nat} (h : Sh S) (hr : Ba r) {n i : Nat} (hn : gI S 401 r = nI n) (hn2 : n ≤ 16) (hi : i < n) : f_X11_checkRule F S r (nI i) = some (.inl (), S) := by
  simp only [f_X11_checkRule, show ¬ nI i < 0 from nI_pos (by omega), if_false, qk_true, qk_false, qv_eq, qP_some', qP_none, qc_some', qc_none, qx_inl', qx_inr', qh_inl', qh_inr', z_r h hr, hn, show nI i < nI n from nI_lt hi (by omega), if_true]
theorem k_part {S : gk_S} {F r i w : Nat} (h : Sh S) (hr : Ba r) (hi : i < 16) {ρ : AR} (c : CR S (ru r i) ρ) (hw : w < 15) : f_X5_part F S (ru r i) (nI w) = some (if w = 0 then nI ρ.a else if w = 1 then nI ρ.s else if w = 14 then gI S 304 (ru r i) else if w % 2 = 0 then nI (ρ.lo ((w - 2) / 2)) else nI (ρ.hi ((w - 2) / 2)), S) := by
  have u := z_u h hr hi
  have u1 := z_up h hr hi
  have u2 := z_uq h hr hi
  have u3 := z_ul h hr hi
  by_cases q0 : w = 0
  · subst q0
    simp only [f_X5_part, show (0 : Int32) < 2 by decide, if_true, f_X5_part_40, show nI 0 = 0 from rfl, qk_true, qk_false, qv_eq, qP_some', qP_none, qc_some', qc_none, qx_inl', qx_inr', qh_inl', qh_inr', u, c.1]
  by_cases q1 : w = 1
  · subst q1
    simp only [f_X5_part, show (1 : Int32) < 2 by decide, if_true, f_X5_part_40, show ¬ nI 1 = 0 by decide, show nI 1 = 1 from rfl, qk_true, qk_false, qv_eq, qP_some', qP_none, qc_some', qc_none, qx_inl', qx_inr', qh_inl', qh_inr', u, c.2.1, if_false, show ¬ (1 : Nat) = 0 by decide, show ¬ (1 : Int32) = 0 by decide]
  by_cases q2 : w = 14
  · subst q2
    simp only [f_X5_part, show ¬ nI 14 < 2 by decide, show (14 : Int32) ≤ nI 14 by decide, if_true, f_X5_part_40, show ¬ nI 14 = 0 by decide, show ¬ nI 14 = 1 by decide, qk_true, qk_false, qv_eq, qP_some', qP_none, qc_some', qc_none, qx_inl', qx_inr', qh_inl', qh_inr', u, if_false, show ¬ (14 : Nat) = 0 by decide, show ¬ (14 : Nat) = 1 by decide]
  have e1 : (nI w - 2) / 2 = nI ((w - 2) / 2) := by
    rw [show (2 : Int32) = nI 2 from rfl, pk_sub (by omega), pk_div (by omega) (by omega) (by omega)]
  have e2 : nI w - nI w / 2 * 2 = nI (w % 2) := pk_rem (d := 2) (by omega) (by omega) (by omega)
  have e3 := c.2.2 ((w - 2) / 2) (by omega)
  have e4 : nI (w % 2) = 0 ↔ w % 2 = 0 := nI_eq (b := 0) (by omega) (by omega)
  simp only [f_X5_part, show ¬ nI w < 2 from nI_nlt (b := 2) (by omega) (by omega), show ¬ (14 : Int32) ≤ nI w from nI_ge (b := 14) (by omega) (by omega), if_false, e1, e2, qk_true, qk_false, qv_eq, qP_some', qP_none, qc_some', qc_none, qx_inl', qx_inr', qh_inl', qh_inr', u, u1, u2, u3, inb_n (by omega : (w - 2) / 2 < 6) (by omega : 6 < 2 ^ 31), aJ, nI_clamp (by omega : (w - 2) / 2 < 2 ^ 31), e3.1, e3.2, lN_i', q0, q1, q2, e4]
  by_cases q3 : w % 2 = 0
  · rw [if_pos q3, if_pos q3]
  · rw [if_neg q3, if_neg q3]
theorem c_rule {S : gk_S} {t F : Nat} (h : Inv S t) (p i w : Int32) : OkT (f_L_rule F S 0 p i w 372) (fun S1 => f_X12_rule_ F S1 352 p i w) t := by
  have hI := h
  obtain ⟨h0, -, -, -, -, ⟨R, L, l1, l2, l3, l4, l5, l6⟩, -⟩ := h
  rcases ix_cases p (n := 4) (by omega) with hp | ⟨k, hk, rfl⟩
  · refine okT_thr hI one_ne ?_ ?_
    · simp only [f_L_rule, f_X11_rule, qk_true, qk_false, qv_eq, qP_some', qP_none, qc_some', qc_none, qx_inl', qx_inr', qh_inl', qh_inr', z_i0 h0, k_ckl' hp, if_true]
    · simp only [f_X12_rule_, qk_true, qk_false, qv_eq, qP_some', qP_none, qc_some', qc_none, qx_inl', qx_inr', qh_inl', qh_inr', isb_cS, z_i352 h0, m_nl' (Sh_cS h0) hp, one_ne, if_false]
  obtain ⟨wl, cl, ml⟩ := l5 k hk
  have tl := l6 k hk
  have hr := l1 k (by omega)
  have d1 := inb_n hk (by omega : 4 < 2 ^ 31)
  have d2 := nI_clamp (by omega : k < 2 ^ 31)
  have k0 : nI k = 0 ↔ k = 0 := nI_eq (b := 0) (by omega) (by omega)
  by_cases q0 : i = -1
  · subst q0
    have e2 : f_X12_rule__31 F 352 (nI k) w 1 352 (sI (cS S) 900 352 0) = some (0, sI (cS S) 900 352 2) := by
      simp only [f_X12_rule__31, qk_true, qk_false, qv_eq, qP_some', qP_none, qc_some', qc_none, qx_inl', qx_inr', qh_inl', qh_inr', isb_sI, isb_cS, z_i352 h0, m_ti1 (S := sI (cS S) 900 352 0) h0, one_ne, if_false, sI_sI]
    by_cases q1 : w = 0
    · subst q1
      refine okT_val (v := nI (L k).p) hI ?_ ?_
      · simp only [f_L_rule, f_X11_rule, qk_true, qk_false, qv_eq, qP_some', qP_none, qc_some', qc_none, qx_inl', qx_inr', qh_inl', qh_inr', z_i0 h0, k_ckl hk, z_p802_0 h0, z_i5 h0, z_l5 h0, d1, aP, d2, l3 k hk, if_true, f_X11_policyPart, f_X11_policyPart_21, z_r h0 hr, cl.2.1, z_i372 h0, z_l372 h0, in0_1]
      · simp only [f_X12_rule_, qk_true, qk_false, qv_eq, qP_some', qP_none, qc_some', qc_none, qx_inl', qx_inr', qh_inl', qh_inr', isb_wJ, z_i352 h0, m_nl (Sh_out h0 _) hk, if_true, f_X12_rule__31, isb_sI, m_ti0 (S := sI (wJ S 372 0 _) 900 352 0) h0, sI_sI, gP_sI, gP_wJ, z_p905_352 h0, z_i354 h0, gL_sI, gL_wJ, z_l354 h0, inb_n (by omega : k < 6) (by omega), aI, d2, xI_sI, xI_wJ, ml.2.1]
    by_cases q2 : w = 14
    · subst q2
      refine okT_val (v := gI S 403 (R k)) hI ?_ ?_
      · simp only [f_L_rule, f_X11_rule, qk_true, qk_false, qv_eq, qP_some', qP_none, qc_some', qc_none, qx_inl', qx_inr', qh_inl', qh_inr', z_i0 h0, k_ckl hk, z_p802_0 h0, z_i5 h0, z_l5 h0, d1, aP, d2, l3 k hk, if_true, f_X11_policyPart, f_X11_policyPart_21, q1, if_false, z_r h0 hr, z_i372 h0, z_l372 h0, in0_1]
      · rw [tl.1]
        simp only [f_X12_rule_, qk_true, qk_false, qv_eq, qP_some', qP_none, qc_some', qc_none, qx_inl', qx_inr', qh_inl', qh_inr', isb_wJ, z_i352 h0, m_nl (Sh_out h0 _) hk, if_true, q1, if_false, f_X12_rule__31, isb_sI, m_ti0 (S := sI (wJ S 372 0 _) 900 352 0) h0, sI_sI, gP_sI, gP_wJ, z_p911_352 h0, z_i360 h0, gL_sI, gL_wJ, z_l360 h0, show inb 16 17 = true from rfl, aI, show (16 : Int32).toNatClampNeg = 16 from rfl, xI_sI, xI_wJ, k0]
        by_cases q3 : k = 0
        · rw [if_pos q3, if_pos q3]
        · rw [if_neg q3, if_neg q3]
    refine okT_thr hI two_ne ?_ ?_
    · simp only [f_L_rule, f_X11_rule, qk_true, qk_false, qv_eq, qP_some', qP_none, qc_some', qc_none, qx_inl', qx_inr', qh_inl', qh_inr', z_i0 h0, k_ckl hk, z_p802_0 h0, z_i5 h0, z_l5 h0, d1, aP, d2, l3 k hk, if_true, f_X11_policyPart, q1, q2, if_false, xEA]
    · simp only [f_X12_rule_, qk_true, qk_false, qv_eq, qP_some', qP_none, qc_some', qc_none, qx_inl', qx_inr', qh_inl', qh_inr', isb_cS, z_i352 h0, m_nl (Sh_cS h0) hk, if_true, q1, q2, if_false, e2]
  have e3 : ∀ i, f_X12_rule__99 F 352 (nI k) i w 1 352 (sI (cS S) 900 352 0) = some (0, sI (cS S) 900 352 2) := by
    intro i
    simp only [f_X12_rule__99, qk_true, qk_false, qv_eq, qP_some', qP_none, qc_some', qc_none, qx_inl', qx_inr', qh_inl', qh_inr', isb_sI, isb_cS, z_i352 h0, m_ti1 (S := sI (cS S) 900 352 0) h0, one_ne, if_false, sI_sI]
  have n16 := wl.1
  rcases ix_cases i (n := (L k).n) (by omega) with hi | ⟨i, hi, rfl⟩
  · refine okT_thr hI two_ne ?_ ?_
    · simp only [f_L_rule, f_X11_rule, qk_true, qk_false, qv_eq, qP_some', qP_none, qc_some', qc_none, qx_inl', qx_inr', qh_inl', qh_inr', z_i0 h0, k_ckl hk, z_p802_0 h0, z_i5 h0, z_l5 h0, d1, aP, d2, l3 k hk, if_true, q0, if_false, k_rul' h0 hr cl.1 hi, xEA]
    · simp only [f_X12_rule_, qk_true, qk_false, qv_eq, qP_some', qP_none, qc_some', qc_none, qx_inl', qx_inr', qh_inl', qh_inr', isb_cS, z_i352 h0, m_nl (Sh_cS h0) hk, if_true, q0, if_false]
      by_cases q1 : i < 0
      · rw [if_pos q1, e3]
      · rw [if_neg q1]
        simp only [isb_sI, isb_cS, gP_sI, gP_cS, gL_sI, gL_cS, xI_sI, xI_cS, qk_true, qk_false, qv_eq, qP_some', qP_none, qc_some', qc_none, qx_inl', qx_inr', qh_inl', qh_inr', z_i352 h0, z_p906_352 h0, z_i355 h0, z_l355 h0, inb_n (by omega : k < 6) (by omega), aI, d2, ml.1, hi.resolve_left q1, if_true, e3]
  have i1 : ¬ nI i < 0 := nI_pos (by omega)
  have i2 : ¬ nI (L k).n ≤ nI i := nI_ge hi (by omega)
  rcases ix_cases w (n := 15) (by omega) with hw | ⟨w, hw, rfl⟩
  · refine okT_thr hI two_ne ?_ ?_
    · simp only [f_L_rule, f_X11_rule, qk_true, qk_false, qv_eq, qP_some', qP_none, qc_some', qc_none, qx_inl', qx_inr', qh_inl', qh_inr', z_i0 h0, k_ckl hk, z_p802_0 h0, z_i5 h0, z_l5 h0, d1, aP, d2, l3 k hk, q0, if_false, k_rul h0 hr cl.1 n16 hi, f_X11_rule_40]
      by_cases q1 : w < 0
      · simp only [q1, if_true, qk_true, qk_false, qv_eq, qP_some', qP_none, qc_some', qc_none, qx_inl', qx_inr', qh_inl', qh_inr', xEA, if_false]
      · simp only [q1, if_false, show ¬ w ≤ 14 from nge (n := 14) (by omega) (hw.resolve_left q1) (by omega), qk_true, qk_false, qv_eq, qP_some', qP_none, qc_some', qc_none, qx_inl', qx_inr', qh_inl', qh_inr', xEA, if_true]
    · simp only [f_X12_rule_, qk_true, qk_false, qv_eq, qP_some', qP_none, qc_some', qc_none, qx_inl', qx_inr', qh_inl', qh_inr', isb_cS, z_i352 h0, m_nl (Sh_cS h0) hk, if_true, q0, if_false, i1, isb_sI, gP_sI, gP_cS, gL_sI, gL_cS, xI_sI, xI_cS, z_p906_352 h0, z_i355 h0, z_l355 h0, inb_n (by omega : k < 6) (by omega), aI, d2, ml.1, i2]
      by_cases q1 : w < 0
      · rw [if_pos q1, e3]
      · rw [if_neg q1, if_neg (show ¬ w ≤ 14 from nge (n := 14) (by omega) (hw.resolve_left q1) (by omega)), e3]
  have w1 : ¬ nI w < 0 := nI_pos (by omega)
  have w2 : nI w ≤ 14 := nI_le (b := 14) (by omega) (by omega)
  have cr := cl.2.2 i hi
  have mr := ml.2.2 i hi
  refine okT_val (v := if w = 0 then nI ((L k).r i).a else if w = 1 then nI ((L k).r i).s else if w = 14 then gI S 304 (ru (R k) i) else if w % 2 = 0 then nI (((L k).r i).lo ((w - 2) / 2)) else nI (((L k).r i).hi ((w - 2) / 2))) hI ?_ ?_
  · simp only [f_L_rule, f_X11_rule, qk_true, qk_false, qv_eq, qP_some', qP_none, qc_some', qc_none, qx_inl', qx_inr', qh_inl', qh_inr', z_i0 h0, k_ckl hk, z_p802_0 h0, z_i5 h0, z_l5 h0, d1, aP, d2, l3 k hk, q0, if_false, k_rul h0 hr cl.1 n16 hi, w1, w2, if_true, z_r h0 hr, k_at h0 hr (by omega : i < 16), z_u h0 hr (by omega : i < 16), k_part h0 hr (by omega : i < 16) cr hw, z_i372 h0, z_l372 h0, in0_1]
  · generalize hv : (if w = 0 then nI ((L k).r i).a else if w = 1 then nI ((L k).r i).s else if w = 14 then gI S 304 (ru (R k) i) else if w % 2 = 0 then nI (((L k).r i).lo ((w - 2) / 2)) else nI (((L k).r i).hi ((w - 2) / 2))) = v
    have a1 : (16 * nI k) + nI i = nI (16 * k + i) := by rw [show (16 : Int32) = nI 16 from rfl, pk_mul, nI_add]
    simp only [f_X12_rule_, qk_true, qk_false, qv_eq, qP_some', qP_none, qc_some', qc_none, qx_inl', qx_inr', qh_inl', qh_inr', isb_wJ, z_i352 h0, m_nl (Sh_out h0 _) hk, if_true, q0, if_false, i1, isb_sI, gP_sI, gP_wJ, gL_sI, gL_wJ, xI_sI, xI_wJ, z_p906_352 h0, z_i355 h0, z_l355 h0, inb_n (by omega : k < 6) (by omega), aI, d2, ml.1, i2, w1, w2, f_X12_rule__99, m_ti0 (S := sI (wJ S 372 0 _) 900 352 0) h0, sI_sI, a1]
    by_cases q1 : w = 0
    · subst q1
      simp only [show ¬ (2 : Int32) ≤ 0 by decide, if_false, show nI 0 = 0 from rfl, if_true] at hv ⊢
      simp only [z_p907_352 h0, z_i356 h0, z_l356 h0, qk_true, qk_false, qv_eq, qP_some', qP_none, qc_some', qc_none, qx_inl', qx_inr', qh_inl', qh_inr', inb_n (by omega : 16 * k + i < 96) (by omega), nI_clamp (by omega : 16 * k + i < 2 ^ 31), mr.1, hv]
    by_cases q2 : w = 1
    · subst q2
      simp only [show ¬ (2 : Int32) ≤ nI 1 by decide, if_false, show ¬ nI 1 = 0 by decide, if_true, q1] at hv ⊢
      simp only [z_p908_352 h0, z_i357 h0, z_l357 h0, qk_true, qk_false, qv_eq, qP_some', qP_none, qc_some', qc_none, qx_inl', qx_inr', qh_inl', qh_inr', inb_n (by omega : 16 * k + i < 96) (by omega), nI_clamp (by omega : 16 * k + i < 2 ^ 31), mr.2.1, hv]
    have w3 : (2 : Int32) ≤ nI w := nI_le (a := 2) (by omega) (by omega)
    by_cases q3 : w = 14
    · subst q3
      simp only [show nI 14 = 14 from rfl, show (2 : Int32) ≤ 14 by decide, if_true, q1, q2, if_false, k0] at hv ⊢
      rw [tl.2 i hi] at hv
      by_cases q4 : k = 0
      · rw [if_pos q4] at hv ⊢
        simp only [z_p911_352 h0, z_i360 h0, z_l360 h0, qk_true, qk_false, qv_eq, qP_some', qP_none, qc_some', qc_none, qx_inl', qx_inr', qh_inl', qh_inr', inb_n (by omega : i < 17) (by omega), nI_clamp (by omega : i < 2 ^ 31), hv]
      · rw [if_neg q4] at hv ⊢
        subst hv
        rfl
    have w4 : ¬ nI w = 14 := fun e => q3 ((nI_eq (b := 14) (by omega) (by omega)).mp e)
    have e1 : (nI w - 2) / 2 = nI ((w - 2) / 2) := by
      rw [show (2 : Int32) = nI 2 from rfl, pk_sub (by omega), pk_div (by omega) (by omega) (by omega)]
    have e2 : nI w - nI w / 2 * 2 = nI (w % 2) := pk_rem (d := 2) (by omega) (by omega) (by omega)
    have e4 : nI (w % 2) = 0 ↔ w % 2 = 0 := nI_eq (b := 0) (by omega) (by omega)
    have e5 := mr.2.2 ((w - 2) / 2) (by omega)
    have a2 : 6 * nI (16 * k + i) + nI ((w - 2) / 2) = nI (6 * (16 * k + i) + (w - 2) / 2) := by rw [show (6 : Int32) = nI 6 from rfl, pk_mul, nI_add]
    simp only [w3, w4, if_true, if_false, e1, e2, e4, a2, qk_true, qk_false, qv_eq, qP_some', qP_none, qc_some', qc_none, qx_inl', qx_inr', qh_inl', qh_inr', z_p909_352 h0, z_i358 h0, z_l358 h0, z_p910_352 h0, z_i359 h0, z_l359 h0, inb_n (by omega : 6 * (16 * k + i) + (w - 2) / 2 < 576) (by omega), aJ, nI_clamp (by omega : 6 * (16 * k + i) + (w - 2) / 2 < 2 ^ 31), xJ_sI, xJ_wJ, show ¬ (358 : Nat) = 372 by decide, show ¬ (359 : Nat) = 372 by decide, e5.1, e5.2, lN_i', q1, q2, q3] at hv ⊢
    by_cases q5 : w % 2 = 0
    · rw [if_pos q5] at hv ⊢; rw [hv]
    · rw [if_neg q5] at hv ⊢; rw [hv]
