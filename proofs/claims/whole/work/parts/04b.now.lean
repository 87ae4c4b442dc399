theorem bind_ex {α : Type} {o : Option α} {P : α → Prop} (h : ∃ x, o = some x ∧ P x) : ∃ x, o = some x ∧ P x := h
theorem c_room {S : gk_S} {t F : Nat} (h : Inv S t) (p : Int32) : ∃ x S1 S2, f_X11_room F S 0 p = some (x, S1) ∧ f_X12_room F S1 352 p = some (x, S2) ∧ Inv S2 t := by
  have hI := h
  obtain ⟨h0, h1, h2, h3, h4, h5, ⟨Q, C, n, mx, tm, b1, b2, b3, b4, a1, a2, a3, a4, a5, a6, a7, a8, a9, p1, p2, p3⟩, h7, h8⟩ := h
  by_cases q1 : p < 1
  · refine ⟨0, S, sI S 900 352 0, ?_, ?_, hI⟩
    · simp only [f_X11_room, f_X8_setRoom, qk_true, qk_false, qv_eq, qP_some', qP_none, qc_some', qc_none, qx_inl', qx_inr', qh_inl', qh_inr', z_i0 h0, z_p805_0 h0, z_i279 h0, q1, if_true, show zb 0 = true from rfl]
    · simp only [f_X12_room, qk_true, qk_false, qv_eq, qP_some', qP_none, qc_some', qc_none, qx_inl', qx_inr', qh_inl', qh_inr', z_i352 h0, q1, if_true]
  by_cases q2 : p ≤ 64
  · obtain ⟨j, hj, rfl⟩ := nI_of (x := p) (fun e => q1 (by
      rw [Int32.lt_iff_toInt_lt] at e ⊢
      have e1 : (1 : Int32).toInt = 1 := rfl
      have e0 : (0 : Int32).toInt = 0 := rfl
      omega))
    have j1 : j ≤ 64 := (nI_leI hj (by omega)).mp q2
    have j2 : 1 ≤ j := Nat.le_of_not_lt fun e => q1 ((nI_ltI (b := 1) hj (by omega)).mpr e)
    refine ⟨1, sI (sI S 602 279 (nI j)) 601 279 0, sI (sI (sI (sI (sI S 602 279 (nI j)) 601 279 0) 900 352 0) 933 352 (nI j)) 932 352 0, ?_, ?_, h0, h1, h2, h3, h4, h5, ⟨Q, C, 0, j, tm, by omega, j2, j1, b4, rfl, rfl, rfl, rfl, a5, a6, a7, a8, a9, p1, p2, fun i hi => absurd hi (Nat.not_lt_zero i)⟩, h7, h8⟩
    · simp only [f_X11_room, f_X8_setRoom, qk_true, qk_false, qv_eq, qP_some', qP_none, qc_some', qc_none, qx_inl', qx_inr', qh_inl', qh_inr', z_i0 h0, z_p805_0 h0, z_i279 h0, q1, q2, if_true, if_false, show zb 1 = true from rfl]
    · simp only [f_X12_room, qk_true, qk_false, qv_eq, qP_some', qP_none, qc_some', qc_none, qx_inl', qx_inr', qh_inl', qh_inr', isb_sI, z_i352 h0, q1, q2, if_true, if_false]
  · refine ⟨0, S, sI S 900 352 0, ?_, ?_, hI⟩
    · simp only [f_X11_room, f_X8_setRoom, qk_true, qk_false, qv_eq, qP_some', qP_none, qc_some', qc_none, qx_inl', qx_inr', qh_inl', qh_inr', z_i0 h0, z_p805_0 h0, z_i279 h0, q1, q2, if_false, show zb 0 = true from rfl]
    · simp only [f_X12_room, qk_true, qk_false, qv_eq, qP_some', qP_none, qc_some', qc_none, qx_inl', qx_inr', qh_inl', qh_inr', z_i352 h0, q1, q2, if_false]

theorem c_now {S : gk_S} {t F : Nat} (h : Inv S t) (hF : 16400 ≤ F) (p : Int32) : ∃ x S1 S2, f_X11_now F S 0 p = some (x, S1) ∧ f_X12_now F S1 352 p = some (x, S2) ∧ Inv S2 t := by
  have hI := h
  obtain ⟨h0, h1, h2, h3, h4, h5, ⟨Q, C, n, mx, tm, b1, b2, b3, b4, a1, a2, a3, a4, a5, a6, a7, a8, a9, p1, p2, p3⟩, h7, h8⟩ := h
  have a6' : gI (sI S 900 352 0) 934 352 = nI tm := a6
  by_cases q1 : p < nI tm
  · refine ⟨0, S, sI S 900 352 0, ?_, ?_, hI⟩
    · simp only [f_X11_now, f_X8_setTime, qk_true, qk_false, qv_eq, qP_some', qP_none, qc_some', qc_none, qx_inl', qx_inr', qh_inl', qh_inr', z_i0 h0, z_p805_0 h0, z_i279 h0, a5, q1, if_true, show zb 0 = true from rfl]
    · simp only [f_X12_now, qk_true, qk_false, qv_eq, qP_some', qP_none, qc_some', qc_none, qx_inl', qx_inr', qh_inl', qh_inr', z_i352 h0, a6', q1, if_true]
  by_cases q2 : p ≤ 1000000000
  · obtain ⟨j, hj, rfl⟩ := nI_of (x := p) (fun e => q1 (by
      rw [Int32.lt_iff_toInt_lt] at e ⊢
      have e0 : (0 : Int32).toInt = 0 := rfl
      rw [nI_toInt (by omega)]
      omega))
    have j1 : j ≤ 1000000000 := (nI_leI (b := 1000000000) hj (by omega)).mp q2
    have H0 : Sh (sI S 603 279 (nI j)) := h0
    obtain ⟨P', g1, g2, g3, g4⟩ := k_now28 (F := F) H0 (tm := j) (n0 := n) hF j1 (Q := Q) (C := C) (fun i hi => (p3 i hi).1.2.2.2.2.2.2.2.1) (fun i hi => (p3 i hi).2.1.2.2.2.2.2.2.2.2) rfl n F n (xP S 280) (fun i => i) (Nat.le_refl _) (by omega) (by omega) (fun i hi => hi) ⟨p1, p2⟩
    have e1 : sI S 603 279 (nI j) = tb (sI S 603 279 (nI j)) (xP S 280) n := tb_id a1
    generalize hN : (nw j C n (fun i => i, n)) = N at g1 g2 g3 g4
    obtain ⟨T', k1, k2⟩ := m_now34 (S := sI (sI (tb (sI S 603 279 (nI j)) P' N.2) 900 352 0) 934 352 (nI j)) (F := F) (Sh_sI (Sh_sI (Sh_tb H0 P' N.2) _ _ _) _ _ _) (tm := j) (n0 := n) hF j1 (C := C) (fun i hi => (p3 i hi).1.2.2.2.2.2.2.2.1) rfl n F n (xI S 369) (fun i => i) (Nat.le_refl _) (by omega) (by omega) (fun i hi => hi) (fun i hi => (p3 i hi).2.2)
    rw [hN] at k1 k2
    refine ⟨1, tb (sI S 603 279 (nI j)) P' N.2, mt (sI (sI (tb (sI S 603 279 (nI j)) P' N.2) 900 352 0) 934 352 (nI j)) T' N.2, ?_, ?_, ?_⟩
    · rw [← e1] at g1
      have a1' : gI (sI S 603 279 (nI j)) 601 279 = nI n := a1
      simp only [f_X11_now, f_X8_setTime, qk_true, qk_false, qv_eq, qP_some', qP_none, qc_some', qc_none, qx_inl', qx_inr', qh_inl', qh_inr', z_i0 h0, z_p805_0 h0, z_i279 h0, a5, q1, q2, if_true, if_false, a1', g1, show zb 1 = true from rfl]
    · have e2 : sI (sI (tb (sI S 603 279 (nI j)) P' N.2) 900 352 0) 934 352 (nI j) = mt (sI (sI (tb (sI S 603 279 (nI j)) P' N.2) 900 352 0) 934 352 (nI j)) (xI S 369) n := mt_id (S := sI (sI (tb (sI S 603 279 (nI j)) P' N.2) 900 352 0) 934 352 (nI j)) a2
      rw [← e2] at k1
      have a3' : gI (sI (tb (sI S 603 279 (nI j)) P' N.2) 900 352 0) 934 352 = nI tm := a6
      have a4' : gI (sI (sI (tb (sI S 603 279 (nI j)) P' N.2) 900 352 0) 934 352 (nI j)) 932 352 = nI n := a2
      simp only [f_X12_now, qk_true, qk_false, qv_eq, qP_some', qP_none, qc_some', qc_none, qx_inl', qx_inr', qh_inl', qh_inr', z_i352 (Sh_tb H0 P' N.2), a3', q1, q2, if_true, if_false, a4', k1]
    · refine ⟨Sh_mt (Sh_sI (Sh_sI (Sh_tb H0 P' N.2) _ _ _) _ _ _) _ _, h1, h2, h3, h4, ?_, ?_, h7, h8⟩
      · exact Ls_c h5 (fun r hr => ⟨rfl, rfl, rfl, fun i hi => ⟨rfl, rfl, rfl, rfl, rfl⟩⟩) ⟨rfl, rfl, rfl, rfl, rfl, rfl⟩ rfl rfl rfl
      · exact ⟨fun i => Q (N.1 i), fun i => C (N.1 i), N.2, mx, j, by omega, b2, b3, j1, rfl, rfl, a3, a4, rfl, rfl, a7, a8, a9, g2.1, g2.2, fun i hi => ⟨(p3 _ (g3 i hi)).1, (p3 _ (g3 i hi)).2.1, k2 i hi⟩⟩
  · refine ⟨0, S, sI S 900 352 0, ?_, ?_, hI⟩
    · simp only [f_X11_now, f_X8_setTime, qk_true, qk_false, qv_eq, qP_some', qP_none, qc_some', qc_none, qx_inl', qx_inr', qh_inl', qh_inr', z_i0 h0, z_p805_0 h0, z_i279 h0, a5, q1, q2, if_false, show zb 0 = true from rfl]
    · simp only [f_X12_now, qk_true, qk_false, qv_eq, qP_some', qP_none, qc_some', qc_none, qx_inl', qx_inr', qh_inl', qh_inr', z_i352 h0, a6', q1, q2, if_false]
theorem k_cpart {S : gk_S} {F q w : Nat} (h : Sh S) (h1 : 281 ≤ q) (h2 : q < 345) {c : Nat → Nat} (hc : CC S q c) (hw : WC c) (h9 : w < 9) : f_X0_part F S q (nI w) = some (nI (c w), S) := by
  have u := z_c h h1 h2
  obtain ⟨c0, c1, c2, c3, c4, c5, c6, c7, c8⟩ := hc
  have e6 := hw.2.2.2.2.2.1
  have hw9 : w = 0 ∨ w = 1 ∨ w = 2 ∨ w = 3 ∨ w = 4 ∨ w = 5 ∨ w = 6 ∨ w = 7 ∨ w = 8 := by omega
  unfold f_X0_part
  rcases hw9 with rfl | rfl | rfl | rfl | rfl | rfl | rfl | rfl | rfl
  · rw [if_pos (by decide)]
    simp only [qk_true, qk_false, qv_eq, qP_some', qP_none, qc_some', qc_none, qx_inl', qx_inr', qh_inl', qh_inr', u, c0]
  · rw [if_neg (by decide), if_pos (by decide)]
    simp only [qk_true, qk_false, qv_eq, qP_some', qP_none, qc_some', qc_none, qx_inl', qx_inr', qh_inl', qh_inr', u, c1, lN_i']
  · rw [if_neg (by decide), if_neg (by decide), if_pos (by decide)]
    simp only [qk_true, qk_false, qv_eq, qP_some', qP_none, qc_some', qc_none, qx_inl', qx_inr', qh_inl', qh_inr', u, c2, lN_i']
  · rw [if_neg (by decide), if_neg (by decide), if_neg (by decide), if_pos (by decide)]
    simp only [qk_true, qk_false, qv_eq, qP_some', qP_none, qc_some', qc_none, qx_inl', qx_inr', qh_inl', qh_inr', u, c3, lN_i']
  · rw [if_neg (by decide), if_neg (by decide), if_neg (by decide), if_neg (by decide), if_pos (by decide)]
    simp only [qk_true, qk_false, qv_eq, qP_some', qP_none, qc_some', qc_none, qx_inl', qx_inr', qh_inl', qh_inr', u, c4, lN_i']
  · rw [if_neg (by decide), if_neg (by decide), if_neg (by decide), if_neg (by decide), if_neg (by decide), if_pos (by decide)]
    simp only [qk_true, qk_false, qv_eq, qP_some', qP_none, qc_some', qc_none, qx_inl', qx_inr', qh_inl', qh_inr', u, c5]
  · rw [if_neg (by decide), if_neg (by decide), if_neg (by decide), if_neg (by decide), if_neg (by decide), if_neg (by decide), if_pos (by decide)]
    simp only [qk_true, qk_false, qv_eq, qP_some', qP_none, qc_some', qc_none, qx_inl', qx_inr', qh_inl', qh_inr', u, c6]
    have : c 6 = 0 ∨ c 6 = 1 := by omega
    rcases this with e | e <;> rw [e] <;> rfl
  · rw [if_neg (by decide), if_neg (by decide), if_neg (by decide), if_neg (by decide), if_neg (by decide), if_neg (by decide), if_neg (by decide), if_pos (by decide)]
    simp only [qk_true, qk_false, qv_eq, qP_some', qP_none, qc_some', qc_none, qx_inl', qx_inr', qh_inl', qh_inr', u, c7]
  · rw [if_neg (by decide), if_neg (by decide), if_neg (by decide), if_neg (by decide), if_neg (by decide), if_neg (by decide), if_neg (by decide), if_neg (by decide)]
    simp only [qk_true, qk_false, qv_eq, qP_some', qP_none, qc_some', qc_none, qx_inl', qx_inr', qh_inl', qh_inr', u, c8]
theorem c_connection {S : gk_S} {t F : Nat} (h : Inv S t) (i w : Int32) : OkT (f_L_connection F S 0 i w 372) (fun S1 => f_X12_connection F S1 352 i w) t := by
  have hI := h
  obtain ⟨h0, -, -, -, -, -, ⟨Q, C, n, mx, tm, b1, b2, b3, b4, a1, a2, a3, a4, a5, a6, a7, a8, a9, p1, p2, p3⟩, -⟩ := h
  have e1 : ∀ i w, f_X12_connection_28 F 352 i w 1 352 (cS S) = some (0, sI (cS S) 900 352 1) := by
    intro i w
    simp only [f_X12_connection_28, qk_true, qk_false, qv_eq, qP_some', qP_none, qc_some', qc_none, qx_inl', qx_inr', qh_inl', qh_inr', isb_cS, z_i352 h0, m_ti1 (Sh_cS h0), one_ne, if_false]
  rcases ix_cases i (n := n) (by omega) with hp | ⟨i, hi, rfl⟩
  · refine okT_thr hI one_ne ?_ ?_
    · by_cases q : i < 0
      · simp only [f_L_connection, f_X11_connection, f_X11_connection_15, q, if_true, qk_true, qk_false, qv_eq, qP_some', qP_none, qc_some', qc_none, qx_inl', qx_inr', qh_inl', qh_inr', z_i0 h0]
      · simp only [f_L_connection, f_X11_connection, f_X11_connection_15, q, if_false, qk_true, qk_false, qv_eq, qP_some', qP_none, qc_some', qc_none, qx_inl', qx_inr', qh_inl', qh_inr', z_i0 h0, z_p805_0 h0, z_i279 h0, a1, show ¬ i < nI n from Int32.not_lt.mpr (hp.resolve_left q), if_true]
    · by_cases q : i < 0
      · simp only [f_X12_connection, q, if_true, e1]
      · simp only [f_X12_connection, q, if_false, qk_true, qk_false, qv_eq, qP_some', qP_none, qc_some', qc_none, qx_inl', qx_inr', qh_inl', qh_inr', isb_cS, z_i352 h0, gI_cS, a2, hp.resolve_left q, if_true, e1]
  have i0 : ¬ nI i < 0 := nI_pos (by omega)
  have i1 : nI i < nI n := nI_lt hi (by omega)
  have i2 : ¬ nI n ≤ nI i := nI_ge hi (by omega)
  rcases ix_cases w (n := 9) (by omega) with hw | ⟨w, hw, rfl⟩
  · refine okT_thr hI one_ne ?_ ?_
    · by_cases q : w < 0
      · simp only [f_L_connection, f_X11_connection, f_X11_connection_35, i0, i1, q, if_true, if_false, qk_true, qk_false, qv_eq, qP_some', qP_none, qc_some', qc_none, qx_inl', qx_inr', qh_inl', qh_inr', z_i0 h0, z_p805_0 h0, z_i279 h0, a1]
      · simp only [f_L_connection, f_X11_connection, f_X11_connection_35, i0, i1, q, if_true, if_false, qk_true, qk_false, qv_eq, qP_some', qP_none, qc_some', qc_none, qx_inl', qx_inr', qh_inl', qh_inr', z_i0 h0, z_p805_0 h0, z_i279 h0, a1, show ¬ w ≤ 8 from nge (n := 8) (by omega) (hw.resolve_left q) (by omega)]
    · by_cases q : w < 0
      · simp only [f_X12_connection, i0, i2, q, if_true, if_false, qk_true, qk_false, qv_eq, qP_some', qP_none, qc_some', qc_none, qx_inl', qx_inr', qh_inl', qh_inr', isb_cS, z_i352 h0, gI_cS, a2, e1]
      · simp only [f_X12_connection, i0, i2, q, if_false, qk_true, qk_false, qv_eq, qP_some', qP_none, qc_some', qc_none, qx_inl', qx_inr', qh_inl', qh_inr', isb_cS, z_i352 h0, gI_cS, a2, show ¬ w ≤ 8 from nge (n := 8) (by omega) (hw.resolve_left q) (by omega), e1]
  have w0 : ¬ nI w < 0 := nI_pos (by omega)
  have w1 : nI w ≤ 8 := nI_le (b := 8) (by omega) (by omega)
  have pi := p1 i (by omega)
  refine okT_val (v := nI (C i w)) hI ?_ ?_
  · simp only [f_L_connection, f_X11_connection, i0, i1, w0, w1, if_true, if_false, qk_true, qk_false, qv_eq, qP_some', qP_none, qc_some', qc_none, qx_inl', qx_inr', qh_inl', qh_inr', z_i0 h0, z_p805_0 h0, z_i279 h0, a1, k_tat h0 (by omega : i < 64) pi.1, z_c h0 pi.2.1 pi.2.2, k_cpart h0 pi.2.1 pi.2.2 (p3 i hi).2.1 (p3 i hi).1 hw, z_i372 h0, z_l372 h0, in0_1]
  · simp only [f_X12_connection, i0, i2, w0, w1, if_true, if_false, qk_true, qk_false, qv_eq, qP_some', qP_none, qc_some', qc_none, qx_inl', qx_inr', qh_inl', qh_inr', isb_wJ, z_i352 h0, gI_wJ, a2, f_X12_connection_28, m_ti0 (Sh_out h0 _), isb_sI, gP_sI, gP_wJ, z_p931_352 h0, z_i369 h0, gL_sI, gL_wJ, z_l369 h0, n9, nI_add, inb_n (by omega : 9 * i + w < 576) (by omega), aI, nI_clamp (by omega : 9 * i + w < 2 ^ 31), xI_sI, xI_wJ, (p3 i hi).2.2 w hw]
