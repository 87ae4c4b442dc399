theorem Inv_tape {S : gk_S} {t : Nat} (h : Inv S t) {g : Nat → Int32} {m : Nat} (hm : m ≤ 2100) (hb : ∀ i, b8 (g i) = g i) : Inv (mo (sI (oc S 1 2 g m) 900 352 0) g m) t := by
  obtain ⟨h0, h1, h2, h3, h4, h5, h6, h7, h8⟩ := h
  exact ⟨h0, ⟨m, hm, rfl, rfl, rfl, hb⟩, h2, h3, h4, h5, h6, h7, h8⟩
theorem c_feed {S : gk_S} {t F : Nat} (h : Inv S t) (hF : 16400 ≤ F) (a b c d e : Int32) : ∃ x S1 S2, f_X11_feed F S 0 a b c d e = some (x, S1) ∧ f_X12_feed F S1 352 a b c d e = some (x, S2) ∧ Inv S2 t := by
  have hI := h
  obtain ⟨h0, ⟨m, hm, g1, g2, g3, g4⟩, h2, h3, h4, h5, h6, h7, h8⟩ := h
  by_cases hq : m + 20 ≤ 2100
  · refine ⟨nI (m + 20), oc S 1 2 (q20 (xI S 2) m a b c d e) (m + 20), mo (sI (oc S 1 2 (q20 (xI S 2) m a b c d e) (m + 20)) 900 352 0) (q20 (xI S 2) m a b c d e) (m + 20), ?_, ?_, Inv_tape hI hq (b8_q4 (b8_q4 (b8_q4 (b8_q4 (b8_q4 g4 _ _) _ _) _ _) _ _) _ _)⟩
    · have := k_feed h0 (F := F) hq (xI S 2) a b c d e
      rw [← oc_id g1] at this
      exact this
    · have e9 : oc S 1 2 (q20 (xI S 2) m a b c d e) (m + 20) = mo (oc S 1 2 (q20 (xI S 2) m a b c d e) (m + 20)) (xI S 2) m := by
        have := mo_id (S := oc S 1 2 (q20 (xI S 2) m a b c d e) (m + 20)) g2
        rw [show xI (oc S 1 2 (q20 (xI S 2) m a b c d e) (m + 20)) 353 = xI S 2 from g3] at this
        exact this
      have := j_feed (S := oc S 1 2 (q20 (xI S 2) m a b c d e) (m + 20)) h0 hF hq (xI S 2) a b c d e
      rw [← e9] at this
      exact this
  · have e0 : ¬ nI m + 20 ≤ 2100 := by rw [show nI m + 20 = nI (m + 20) from nI_add m 20]; exact nI_ge (a := 2100) (b := m + 20) (by omega) (by omega)
    refine ⟨-1, S, sI S 900 352 0, ?_, ?_, h0, ⟨m, hm, g1, g2, g3, g4⟩, h2, h3, h4, h5, h6, h7, h8⟩
    · simp only [f_X11_feed, qk_true, qk_false, qv_eq, qP_some', qP_none, qc_some', qc_none, qx_inl', qx_inr', qh_inl', qh_inr', z_i0 h0, z_p800_0 h0, z_i1 h0, g1, e0, if_false]
    · have g2' : gI (sI S 900 352 0) 902 352 = nI m := g2
      simp only [f_X12_feed, qk_true, qk_false, qv_eq, qP_some', qP_none, qc_some', qc_none, qx_inl', qx_inr', qh_inl', qh_inr', z_i352 h0, g2', e0, if_false]
