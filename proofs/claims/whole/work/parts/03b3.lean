theorem c_end {S : gk_S} {t F : Nat} (h : Inv S t) (a : Int32) : ∃ x S1 S2, f_X11_end F S 0 a = some (x, S1) ∧ f_X12_end F S1 352 a = some (x, S2) ∧ Inv S2 t := by
  obtain ⟨h0, ⟨m, hm, g1, g2, g3, g4⟩, h2, h3, h4, h5, h6, h7, h8⟩ := h
  have g2' : gI (sI S 900 352 0) 902 352 = nI m := g2
  by_cases q1 : a < 0
  · refine ⟨0, S, sI S 900 352 0, ?_, ?_, h0, ⟨m, hm, g1, g2, g3, g4⟩, h2, h3, h4, h5, h6, h7, h8⟩
    · simp only [f_X11_end, q1, if_true]
    · simp only [f_X12_end, qk_true, qk_false, qv_eq, qP_some', qP_none, qc_some', qc_none, qx_inl', qx_inr', qh_inl', qh_inr', z_i352 h0, q1, if_true]
  · by_cases q2 : a ≤ nI m
    · obtain ⟨j, hj, rfl⟩ := nI_of q1
      have hj2 : j ≤ m := (nI_leI hj (by omega)).mp q2
      refine ⟨1, sI S 101 1 (nI j), sI (sI (sI S 101 1 (nI j)) 900 352 0) 902 352 (nI j), ?_, ?_, h0, ⟨j, by omega, rfl, rfl, g3, g4⟩, h2, h3, h4, h5, h6, h7, h8⟩
      · simp only [f_X11_end, qk_true, qk_false, qv_eq, qP_some', qP_none, qc_some', qc_none, qx_inl', qx_inr', qh_inl', qh_inr', z_i0 h0, z_p800_0 h0, z_i1 h0, g1, q1, q2, if_true, if_false]
      · have g3' : gI (sI (sI S 101 1 (nI j)) 900 352 0) 902 352 = nI m := g2
        simp only [f_X12_end, qk_true, qk_false, qv_eq, qP_some', qP_none, qc_some', qc_none, qx_inl', qx_inr', qh_inl', qh_inr', isb_sI, z_i352 h0, g3', q1, q2, if_true, if_false]
    · refine ⟨0, S, sI S 900 352 0, ?_, ?_, h0, ⟨m, hm, g1, g2, g3, g4⟩, h2, h3, h4, h5, h6, h7, h8⟩
      · simp only [f_X11_end, qk_true, qk_false, qv_eq, qP_some', qP_none, qc_some', qc_none, qx_inl', qx_inr', qh_inl', qh_inr', z_i0 h0, z_p800_0 h0, z_i1 h0, g1, q1, q2, if_false]
      · simp only [f_X12_end, qk_true, qk_false, qv_eq, qP_some', qP_none, qc_some', qc_none, qx_inl', qx_inr', qh_inl', qh_inr', z_i352 h0, g2', q1, q2, if_false]
