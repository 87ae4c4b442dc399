/-! both read from the start -/
def A0 : AS := (1, 0, 0, 0, 0, (0, 0, fun _ => wR 0))
theorem A0_W (m : Nat) : WA m A0 := ⟨Nat.zero_le _, by decide, by decide, by decide, fun i hi => absurd hi (Nat.not_lt_zero i), fun q => absurd q (by decide), fun q => absurd q (by decide), fun q => absurd q (by decide), fun q => absurd q (by decide)⟩
section BTH
variable {S T : gk_S} {F r m : Nat} {b : Nat → Nat}
theorem k_readS (hF : 16400 ≤ F) (hr : Ba r) (h : RD S b m) : RO S r b m (f_X9_read F S 256 r) (RA b m A0) := by
  have hb := Ba_lt hr
  have m2 := h.2.2.1
  have h1 := RD_sI h (f := 701) (by decide) 256 0
  have h2 := RD_sI h1 (f := 705) (by decide) 256 0
  have h3 := RD_sI h2 (f := 707) (by decide) 256 1
  have h4 := RD_sI h3 (f := 401) (by decide) r 0
  have h5 := RD_sI h4 (f := 402) (by decide) r 0
  have h6 := RD_sI h5 (f := 403) (by decide) r 0
  have d6 : DF r S (sI (sI (sI (sI (sI (sI S 701 256 0) 705 256 0) 707 256 1) 401 r 0) 402 r 0) 403 r 0) := DF_sI (DF_sI (DF_sI (DF_sI (DF_sI (DF_sI DF_refl (Or.inl (by omega)) _) (Or.inl (by omega)) _) (Or.inl (by omega)) _) (Or.inr (by omega)) _) (Or.inr (by omega)) _) (Or.inr (by omega)) _
  have e7 : gI (sI (sI (sI (sI (sI (sI S 701 256 0) 705 256 0) 707 256 1) 401 r 0) 402 r 0) 403 r 0) 707 256 = 1 := by
    rw [rd_ne _ _ (Or.inl (by decide)), rd_ne _ _ (Or.inl (by decide)), rd_ne _ _ (Or.inl (by decide))]; exact rd_eq _ _ _ _
  have e5 : gI (sI (sI (sI (sI (sI (sI S 701 256 0) 705 256 0) 707 256 1) 401 r 0) 402 r 0) 403 r 0) 705 256 = 0 := by
    rw [rd_ne _ _ (Or.inl (by decide)), rd_ne _ _ (Or.inl (by decide)), rd_ne _ _ (Or.inl (by decide)), rd_ne _ _ (Or.inl (by decide))]; exact rd_eq _ _ _ _
  have g1 : gI (sI (sI (sI (sI (sI (sI S 701 256 0) 705 256 0) 707 256 1) 401 r 0) 402 r 0) 403 r 0) 401 r = 0 := by
    rw [rd_ne _ _ (Or.inl (by decide)), rd_ne _ _ (Or.inl (by decide))]; exact rd_eq _ _ _ _
  have g2 : gI (sI (sI (sI (sI (sI (sI S 701 256 0) 705 256 0) 707 256 1) 401 r 0) 402 r 0) 403 r 0) 402 r = 0 := by
    rw [rd_ne _ _ (Or.inl (by decide))]; exact rd_eq _ _ _ _
  have g3 : gI (sI (sI (sI (sI (sI (sI S 701 256 0) 705 256 0) 707 256 1) 401 r 0) 402 r 0) 403 r 0) 403 r = 0 := rd_eq _ _ _ _
  unfold f_X9_read f_X6_clear
  rw [z_i256 h.1, qk_true, qv_eq, qv_eq, qv_eq, z_r h3.1 hr, qk_true, qk_true, qv_eq, qv_eq, qv_eq, qc_some']
  generalize sI (sI (sI (sI (sI (sI S 701 256 0) 705 256 0) 707 256 1) 401 r 0) 402 r 0) 403 r 0 = T at h6 d6 e7 e5 g1 g2 g3
  have cb : CB T r b m A0 := ⟨h6, e7, fun q => absurd q (by decide), fun q => absurd q (by decide), fun q => absurd q (by decide), g1, g2, g3, fun i hi => absurd hi (Nat.not_lt_zero i), fun q => absurd q (by decide)⟩
  obtain ⟨T', k1, k2⟩ := k_rd (F := F) hF hr (m + 1) 0 F T A0 cb e5 (A0_W m) (by decide) (by show m + 1 - 0 ≤ m + 1; omega) (Nat.le_refl _) (by omega)
  exact ⟨T', DF_trans d6 k1, k2⟩
theorem v_text (hF : 16400 ≤ F) (h : MD T b m) (t0 : MTk T b (wsE b m 0) (tok b m (wsE b m 0))) : TX T b m (f_X12_text F T 352) A0 := by
  have m2 := h.2.2.1
  have h1 := MD_wI h (a := 354) (by omega) 4 0
  have h2 := MD_wI h1 (a := 355) (by omega) 4 0
  have f2 : MF T (wI (wI T 354 4 0) 355 4 0) := MF_wI (i := 4) (MF_wI (i := 4) MF_refl (by omega) (by omega) _) (by omega) (by omega) _
  have x5 : xI (wI (wI T 354 4 0) 355 4 0) 355 4 = 0 := (ri_eq (wI T 354 4 0) 355 (i := 4) (by omega) 0 4).trans (if_pos rfl)
  have x4 : xI (wI (wI T 354 4 0) 355 4 0) 354 4 = 0 := by rw [ri_ne _ _ _ _ (by decide)]; exact (ri_eq T 354 (i := 4) (by omega) 0 4).trans (if_pos rfl)
  have tt : MTk (wI (wI T 354 4 0) 355 4 0) b (wsE b m 0) (tok b m (wsE b m 0)) := t0
  unfold f_X12_text
  rw [z_i352 h.1, qk_true, z_p905_352 h.1, qP_some', z_i354 h.1, qk_true, z_l354 h.1, show inb 4 6 = true from rfl, qk_true, qv_eq, z_p906_352 h1.1, qP_some', z_i355 h1.1, qk_true, z_l355 h1.1, show inb 4 6 = true from rfl, qk_true, qv_eq]
  generalize wI (wI T 354 4 0) 355 4 0 = T1 at h2 f2 x5 x4 tt
  have M0 : MA T1 b m A0 := ⟨h2, tt, x5, x4, fun i hi => absurd hi (Nat.not_lt_zero i), fun q => absurd q (by decide)⟩
  have W0 := A0_W m
  have v := MA_v M0 W0
  have tq := tak_1 (A := A0) (k := (tk b m A0.o).1) (v := (tk b m A0.o).2.1) (w := wk b (tk b m A0.o)) (e := (tk b m A0.o).2.2.2) rfl
  have w0 : A0.w ≠ 0 := by decide
  rw [v_w3 h2.1 v, qc_some']
  by_cases c3 : wk b (tk b m A0.o) = 3
  · rw [if_pos c3] at tq
    unfold go at tq
    have t1 := wk_1 b _ (show wk b (tk b m A0.o) < 18 by omega)
    obtain ⟨s1, s2, s3, s4⟩ := st_go W0 w0 (by omega) (by omega) tq (by show 2 ≠ 0; decide)
    obtain ⟨A1, hA1⟩ : ∃ B : AS, B = (2, (tk b m A0.o).2.2.2, A0.n, A0.t, A0.f, A0.L) := ⟨_, rfl⟩
    rw [← hA1] at s1 s2 s3 s4
    have e4 := (v.2.2.1 (by omega)).2.2.1 (by omega)
    have hl1 : ML4 T1 A1.L (5 ≤ A1.w) := by rw [hA1]; exact ML4_c M0.2.2 (fun q => absurd q (show ¬ 5 ≤ 2 by decide)) ⟨rfl, rfl, rfl, rfl, rfl, rfl⟩
    obtain ⟨T2, n1, n2, n3⟩ := v_adv (F := F) (A := A1) hF h2 (by rw [s3]; exact e4) s1.1 hl1
    have hw1 : A1.w = 2 := by rw [hA1]
    have v2 := MA_v n3 s1
    have tq2 := tak_2 (A := A1) (k := (tk b m A1.o).1) (v := (tk b m A1.o).2.1) (w := wk b (tk b m A1.o)) (e := (tk b m A1.o).2.2.2) hw1
    rw [decide_eq_true c3, if_neg (show ¬ bI true = 0 by decide), z_i352 h2.1, qk_true, n1, qc_some', z_i352 n3.1.1, qk_true, v_isAct n3.1.1 v2, qc_some']
    refine TX_s (MF_trans f2 n2) s4 ?_
    by_cases acc : wk b (tk b m A1.o) < 3
    · rw [if_pos acc] at tq2
      obtain ⟨y1, y2, y3⟩ := v_wv v2 rfl (show wk b (tk b m A1.o) < 18 by omega)
      obtain ⟨p1, p2, p3, p4⟩ := st_go s1 (by omega) (by omega) (by omega) tq2 (by show 3 ≠ 0; decide)
      obtain ⟨A2, hA2⟩ : ∃ B : AS, B = (3, (tk b m A1.o).2.2.2, A1.n, A1.t, A1.f, (A1.L.n, wk b (tk b m A1.o), A1.L.r)) := ⟨_, rfl⟩
      rw [← hA2] at p1 p2 p3 p4
      have e42 := (v2.2.2.1 (by omega)).2.2.1 (by omega)
      have h3 := MD_wI n3.1 (a := 354) (by omega) 4 (nI (wk b (tk b m A1.o)))
      have f3 : MF T2 (wI T2 354 4 (nI (wk b (tk b m A1.o)))) := MF_wI (i := 4) MF_refl (by omega) (by omega) _
      have hl2 : ML4 (wI T2 354 4 (nI (wk b (tk b m A1.o)))) A2.L (5 ≤ A2.w) := by
        have en : A1.L.n = 0 := by rw [hA1]; rfl
        rw [hA2]
        refine ⟨?_, ?_, fun i hi => ?_, fun q => absurd q (show ¬ 5 ≤ 3 by decide)⟩
        · rw [ri_ne _ _ _ _ (by decide)]; exact n3.2.2.1
        · exact (ri_eq T2 354 (i := 4) (by omega) _ 4).trans (if_pos rfl)
        · have hi' : i < A1.L.n := hi
          omega
      obtain ⟨T3, o1, o2, o3⟩ := v_adv (F := F) (A := A2) hF h3 (by rw [p3]; exact e42) p1.1 hl2
      have hw2 : A2.w = 3 := by rw [hA2]
      have v3 := MA_v o3 p1
      have tq3 := tak_3 (A := A2) (k := (tk b m A2.o).1) (v := (tk b m A2.o).2.1) (w := wk b (tk b m A2.o)) (e := (tk b m A2.o).2.2.2) hw2
      unfold f_X12_mustSign
      rw [decide_eq_true acc, if_neg (show ¬ bI true = 0 by decide), z_i352 n3.1.1, qk_true, z_p905_352 n3.1.1, qP_some', qv_eq, y1, z_i354 n3.1.1, qk_true, z_l354 n3.1.1, show inb 4 6 = true from rfl, qk_true, qv_eq, o1, qc_some', z_i352 o3.1.1, qk_true, qk_true, v_sg59 o3.1.1 v3, qc_some']
      refine TX_s (MF_trans f3 o2) p4 ?_
      by_cases c59 : (tk b m A2.o).1 = 4 ∧ (tk b m A2.o).2.1 = 59
      · rw [if_pos c59] at tq3
        unfold go at tq3
        obtain ⟨q1, q2, q3, q4⟩ := st_go p1 (by omega) (by omega) (by omega) tq3 (by show 4 ≠ 0; decide)
        obtain ⟨A3, hA3⟩ : ∃ B : AS, B = (4, (tk b m A2.o).2.2.2, A2.n, A2.t, A2.f, A2.L) := ⟨_, rfl⟩
        rw [← hA3] at q1 q2 q3 q4
        have e43 := (v3.2.2.1 (by omega)).2.2.1 (by omega)
        have hl3 : ML4 T3 A3.L (5 ≤ A3.w) := by rw [hA3]; exact ML4_c o3.2.2 (fun q => absurd q (show ¬ 5 ≤ 4 by decide)) ⟨rfl, rfl, rfl, rfl, rfl, rfl⟩
        obtain ⟨T4, x1, x2, x3⟩ := v_adv (F := F) (A := A3) hF o3.1 (by rw [q3]; exact e43) q1.1 hl3
        have hw3 : A3.w = 4 := by rw [hA3]
        rw [decide_eq_true c59, if_neg (show ¬ bI true = 0 by decide), z_i352 o3.1.1, qk_true, x1, qc_some', qc_some', if_neg one_ne]
        exact TX_s x2 q4 (v_t63 hF (m + 1) F T4 A3 x3 q1 (by omega) (tak_4 hw3) (by omega) (by omega))
      · rw [if_neg c59] at tq3
        rw [decide_eq_false c59, if_pos (show bI false = 0 from rfl), z_i352 o3.1.1, qk_true]
        obtain ⟨T', f1, κ, pl, e1, e2, e3, e4, e5, e6⟩ := MFt_w (v_cant (F := F) o3.1.1 p1 (by omega) m2 v3 (fun _ _ => tq3))
        exact Or.inl ⟨T', f1, κ, pl, e1, e2, e3, e4, by rw [e5, qc_some', if_pos rfl], e6⟩
    · rw [if_neg acc] at tq2
      rw [decide_eq_false acc, if_pos (show bI false = 0 from rfl), z_i352 n3.1.1, qk_true]
      exact Or.inl (MFt_w (v_cant n3.1.1 s1 (by omega) m2 v2 (fun _ _ => tq2)))
  · rw [if_neg c3] at tq
    rw [decide_eq_false c3, if_pos (show bI false = 0 from rfl)]
    exact TX_s f2 rfl (v_t63 hF (m + 1) F T1 A0 M0 W0 w0 tq (by show m + 1 - 0 ≤ m + 1; omega) (by omega))
end BTH
