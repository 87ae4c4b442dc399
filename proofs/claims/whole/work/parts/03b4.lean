theorem c_fault {S : gk_S} {t F : Nat} (h : Inv S t) : ∃ x S1 S2, f_X11_fault F S 0 = some (x, S1) ∧ f_X12_fault F S1 352 = some (x, S2) ∧ Inv S2 t := by
  obtain ⟨h0, h1, h2, h3, h4⟩ := h
  refine ⟨gI S 812 0, S, sI S 900 352 0, ?_, ?_, h0, h1, h2, h3, h4⟩
  · simp only [f_X11_fault, qk_true, qk_false, qv_eq, qP_some', qP_none, qc_some', qc_none, qx_inl', qx_inr', qh_inl', qh_inr', z_i0 h0]
  · simp only [f_X12_fault, qk_true, qk_false, qv_eq, qP_some', qP_none, qc_some', qc_none, qx_inl', qx_inr', qh_inl', qh_inr', z_i352 h0]
    rw [h3.1]
    rfl
theorem c_count {S : gk_S} {t F : Nat} (h : Inv S t) (a : Int32) : ∃ x S1 S2, f_X11_count F S 0 a = some (x, S1) ∧ f_X12_count F S1 352 a = some (x, S2) ∧ Inv S2 t := by
  have hI := h
  obtain ⟨h0, ⟨m, hm, g1, g2, g3, g4⟩, ⟨m', hm', o1, o2, o3⟩, h3, h4, h5, ⟨Q, C, n, mx, tm, -, -, -, -, a1, a2, a3, a4, a5, a6, a7, a8, a9, -⟩, h7, h8⟩ := h
  have e1 : gI (sI S 900 352 0) 902 352 = gI S 101 1 := g2.trans g1.symm
  have e2 : gI (sI S 900 352 0) 921 352 = gI S 101 3 := o2.trans o1.symm
  have e3 : gI (sI S 900 352 0) 934 352 = gI S 603 279 := a6.trans a5.symm
  have e4 : gI (sI S 900 352 0) 933 352 = gI S 602 279 := a4.trans a3.symm
  have e5 : gI (sI S 900 352 0) 932 352 = gI S 601 279 := a2.trans a1.symm
  have e6 : gI (sI S 900 352 0) 935 352 = gI S 813 0 := a9.symm
  have e7 : gI (sI S 900 352 0) 936 352 = gI S 604 279 := a7.symm
  have e8 : gI (sI S 900 352 0) 937 352 = gI S 605 279 := a8.symm
  have key : ∃ x, f_X11_count F S 0 a = some (x, S) ∧ f_X12_count F S 352 a = some (x, sI S 900 352 0) := by
    simp only [f_X11_count, f_X12_count, qk_true, qk_false, qv_eq, qP_some', qP_none, qc_some', qc_none, qx_inl', qx_inr', qh_inl', qh_inr', z_i0 h0, z_i1 h0, z_i3 h0, z_i279 h0, z_i352 h0, z_p800_0 h0, z_p801_0 h0, z_p805_0 h0, e1, e2, e3, e4, e5, e6, e7, e8]
    by_cases c0 : a = 0
    · exact ⟨_, if_pos c0, if_pos c0⟩
    rw [if_neg c0, if_neg c0]
    by_cases c1 : a = 1
    · exact ⟨_, if_pos c1, if_pos c1⟩
    rw [if_neg c1, if_neg c1]
    by_cases c2 : a = 2
    · exact ⟨_, if_pos c2, if_pos c2⟩
    rw [if_neg c2, if_neg c2]
    by_cases c3 : a = 3
    · exact ⟨_, if_pos c3, if_pos c3⟩
    rw [if_neg c3, if_neg c3]
    by_cases c4 : a = 4
    · exact ⟨_, if_pos c4, if_pos c4⟩
    rw [if_neg c4, if_neg c4]
    by_cases c5 : a = 5
    · exact ⟨_, if_pos c5, if_pos c5⟩
    rw [if_neg c5, if_neg c5]
    by_cases c6 : a = 6
    · exact ⟨_, if_pos c6, if_pos c6⟩
    rw [if_neg c6, if_neg c6]
    by_cases c7 : a = 7
    · exact ⟨_, if_pos c7, if_pos c7⟩
    rw [if_neg c7, if_neg c7]
    exact ⟨_, rfl, rfl⟩
  obtain ⟨x, k1, k2⟩ := key
  exact ⟨x, S, _, k1, k2, hI⟩
