/-! fields that are none -/
def bad (p : Int32) (n : Nat) : Prop := p < 0 ∨ nI n ≤ p
theorem bad_l {p : Int32} {n : Nat} (hn : n + 1 < 2 ^ 31) (h : bad p (n + 1)) (h0 : ¬ p < 0) : lN n < p.toInt64 ∧ ¬ p.toInt64 ≤ lN n ∧ ¬ p ≤ nI n := by
  obtain ⟨j, hj, rfl⟩ := nI_of h0
  have h2 := (nI_leI (by omega) hj).mp (h.resolve_left h0)
  rw [nI_l hj]
  exact ⟨(l_lt (by omega) (by omega)).mpr (by omega), fun e => by have := (l_le (by omega) (by omega)).mp e; omega, nI_ge (by omega) hj⟩
theorem ok_l {n j : Nat} (hn : n < 2 ^ 31) (h : j < n + 1) : ¬ nI j < 0 ∧ ¬ lN n < (nI j).toInt64 ∧ (nI j).toInt64 ≤ lN n ∧ nI j ≤ nI n := by
  rw [nI_l (by omega)]
  exact ⟨nI_pos (by omega), fun e => by have := (l_lt (by omega) (by omega)).mp e; omega, (l_le (by omega) (by omega)).mpr (by omega), nI_le (by omega) hn⟩
theorem k_cf {S : gk_S} {F : Nat} (p0 p1 p2 p3 : Int32) : ((bad p0 4 ∨ bad p1 256 ∨ bad p2 65536 ∨ bad p3 65536) ∧ f_X11_checkFields F S p0 p1 p2 p3 = some (.inr gx_A, cS S)) ∨ ∃ w0 w1 w2 w3, w0 < 4 ∧ w1 < 256 ∧ w2 < 65536 ∧ w3 < 65536 ∧ p0 = nI w0 ∧ p1 = nI w1 ∧ p2 = nI w2 ∧ p3 = nI w3 ∧ f_X11_checkFields F S p0 p1 p2 p3 = some (.inl (), S) := by
  have t0 : gk_tops (0 : Int32).toNatClampNeg = lN 3 := rfl
  have t1 : gk_tops (1 : Int32).toNatClampNeg = lN 255 := rfl
  have t4 : gk_tops (4 : Int32).toNatClampNeg = lN 65535 := rfl
  have t5 : gk_tops (5 : Int32).toNatClampNeg = lN 65535 := rfl
  unfold f_X11_checkFields f_X11_checkFields_30 f_X11_checkFields_71
  rw [t0, t1, t4, t5]
  rcases ix_cases p0 (n := 4) (by omega) with b | ⟨w0, h0, rfl⟩
  · refine Or.inl ⟨Or.inl b, ?_⟩
    by_cases q : p0 < 0
    · rw [if_pos q]
    · rw [if_neg q, if_pos (bad_l (n := 3) (by omega) b q).1]
  obtain ⟨a1, a2, a3, a4⟩ := ok_l (n := 3) (by omega) h0
  rw [if_neg a1, if_neg a2]
  rcases ix_cases p1 (n := 256) (by omega) with b | ⟨w1, h1, rfl⟩
  · refine Or.inl ⟨Or.inr (Or.inl b), ?_⟩
    by_cases q : p1 < 0
    · rw [if_pos q]
    · rw [if_neg q, if_neg (bad_l (n := 255) (by omega) b q).2.1]
  obtain ⟨b1, b2, b3, b4⟩ := ok_l (n := 255) (by omega) h1
  rw [if_neg b1, if_pos b3]
  rcases ix_cases p2 (n := 65536) (by omega) with b | ⟨w2, h2, rfl⟩
  · refine Or.inl ⟨Or.inr (Or.inr (Or.inl b)), ?_⟩
    by_cases q : p2 < 0
    · rw [if_pos q]
    · rw [if_neg q, if_pos (bad_l (n := 65535) (by omega) b q).1]
  obtain ⟨c1, c2, c3, c4⟩ := ok_l (n := 65535) (by omega) h2
  rw [if_neg c1, if_neg c2]
  rcases ix_cases p3 (n := 65536) (by omega) with b | ⟨w3, h3, rfl⟩
  · refine Or.inl ⟨Or.inr (Or.inr (Or.inr b)), ?_⟩
    by_cases q : p3 < 0
    · rw [if_pos q]
    · rw [if_neg q, if_neg (bad_l (n := 65535) (by omega) b q).2.1]
  obtain ⟨d1, d2, d3, d4⟩ := ok_l (n := 65535) (by omega) h3
  rw [if_neg d1, if_pos d3]
  exact Or.inr ⟨w0, w1, w2, w3, h0, h1, h2, h3, rfl, rfl, rfl, rfl, rfl⟩
theorem m_no1 {S : gk_S} {F : Nat} {p : Int32} {n : Nat} (hn : n + 1 < 2 ^ 31) (h : bad p (n + 1)) : f_X12_isNone F S p (nI n) = some (1, S) := by
  unfold f_X12_isNone
  by_cases q : p < 0
  · rw [if_pos q]
  · rw [if_neg q, if_neg (bad_l hn h q).2.2]
theorem m_no0 {S : gk_S} {F n j : Nat} (hn : n < 2 ^ 31) (h : j < n + 1) : f_X12_isNone F S (nI j) (nI n) = some (0, S) := by
  obtain ⟨a1, a2, a3, a4⟩ := ok_l hn h
  unfold f_X12_isNone
  rw [if_neg a1, if_pos a4]
theorem m_no {S : gk_S} {F n : Nat} (hn : n + 1 < 2 ^ 31) (p : Int32) : (bad p (n + 1) ∧ f_X12_isNone F S p (nI n) = some (1, S)) ∨ ∃ j, j < n + 1 ∧ p = nI j ∧ f_X12_isNone F S p (nI n) = some (0, S) := by
  rcases ix_cases p (n := n + 1) (by omega) with b | ⟨j, hj, rfl⟩
  · exact Or.inl ⟨b, m_no1 hn b⟩
  · exact Or.inr ⟨j, hj, rfl, m_no0 (by omega) hj⟩
theorem m_mt1 {S : gk_S} (h : Sh S) {F : Nat} (a b c d e f g i : Int32) : f_X12_match_61 F 352 a b c d e f g i 1 352 (sI S 900 352 0) = some (0, sI S 900 352 2) := by
  simp only [f_X12_match_61, qk_true, qk_false, qv_eq, qP_some', qP_none, qc_some', qc_none, qx_inl', qx_inr', qh_inl', qh_inr', isb_sI, z_i352 h, m_ti1 (S := sI S 900 352 0) h, one_ne, if_false, sI_sI]
theorem m_matchb {S : gk_S} (h : Sh S) {F k : Nat} (hk : k < 4) {p1 p2 p3 p4 p5 p6 p7 : Int32} (hb : (bad p1 4 ∨ bad p2 256 ∨ bad p5 65536 ∨ bad p6 65536) ∨ bad p7 4) : f_X12_match F S 352 (nI k) p1 p2 p3 p4 p5 p6 p7 = some (0, sI S 900 352 2) := by
  simp only [f_X12_match, qk_true, qk_false, qv_eq, qP_some', qP_none, qc_some', qc_none, qx_inl', qx_inr', qh_inl', qh_inr', z_i352 h, m_nl h hk, if_true]
  have a0 := m_no (S := sI S 900 352 0) (F := F) (n := 3) (by omega) p1
  have a1 := m_no (S := sI S 900 352 0) (F := F) (n := 255) (by omega) p2
  have a2 := m_no (S := sI S 900 352 0) (F := F) (n := 65535) (by omega) p5
  have a3 := m_no (S := sI S 900 352 0) (F := F) (n := 65535) (by omega) p6
  have a4 := m_no (S := sI S 900 352 0) (F := F) (n := 3) (by omega) p7
  have nb : ∀ {j n : Nat}, j < n → n < 2 ^ 31 → ¬ bad (nI j) n := fun hj hn b => b.elim (nI_pos (by omega)) (nI_ge hj hn)
  rw [show (3 : Int32) = nI 3 from rfl, show (255 : Int32) = nI 255 from rfl, show (65535 : Int32) = nI 65535 from rfl]
  rcases a0 with ⟨-, e⟩ | ⟨j, hj, rfl, e⟩ <;> rw [e] <;> simp only [qk_true, qk_false, qv_eq, qP_some', qP_none, qc_some', qc_none, qx_inl', qx_inr', qh_inl', qh_inr', one_ne, if_false, if_true, m_mt1 h]
  rcases a1 with ⟨-, e⟩ | ⟨j1, hj1, rfl, e⟩ <;> rw [e] <;> simp only [qk_true, qk_false, qv_eq, qP_some', qP_none, qc_some', qc_none, qx_inl', qx_inr', qh_inl', qh_inr', one_ne, if_false, if_true, m_mt1 h]
  rcases a2 with ⟨-, e⟩ | ⟨j2, hj2, rfl, e⟩ <;> rw [e] <;> simp only [qk_true, qk_false, qv_eq, qP_some', qP_none, qc_some', qc_none, qx_inl', qx_inr', qh_inl', qh_inr', one_ne, if_false, if_true, m_mt1 h]
  rcases a3 with ⟨-, e⟩ | ⟨j3, hj3, rfl, e⟩ <;> rw [e] <;> simp only [qk_true, qk_false, qv_eq, qP_some', qP_none, qc_some', qc_none, qx_inl', qx_inr', qh_inl', qh_inr', one_ne, if_false, if_true, m_mt1 h]
  rcases a4 with ⟨-, e⟩ | ⟨j4, hj4, rfl, e⟩ <;> rw [e] <;> simp only [qk_true, qk_false, qv_eq, qP_some', qP_none, qc_some', qc_none, qx_inl', qx_inr', qh_inl', qh_inr', one_ne, if_false, if_true, m_mt1 h]
  rcases hb with (b | b | b | b) | b
  · exact absurd b (nb hj (by omega))
  · exact absurd b (nb hj1 (by omega))
  · exact absurd b (nb hj2 (by omega))
  · exact absurd b (nb hj3 (by omega))
  · exact absurd b (nb hj4 (by omega))
theorem pkt_lt {w0 w1 w2 w3 w4 w5 w6 : Nat} (h0 : w0 < 2 ^ 32) (h1 : w1 < 2 ^ 32) (h2 : w2 < 2 ^ 32) (h3 : w3 < 2 ^ 32) (h4 : w4 < 2 ^ 32) (h5 : w5 < 2 ^ 32) : ∀ f, f < 6 → pkt w0 w1 w2 w3 w4 w5 w6 f < 2 ^ 62 := by
  intro f hf
  have : f = 0 ∨ f = 1 ∨ f = 2 ∨ f = 3 ∨ f = 4 ∨ f = 5 := by omega
  rcases this with rfl | rfl | rfl | rfl | rfl | rfl
  · show w0 < _; omega
  · show w1 < _; omega
  · show w2 < _; omega
  · show w3 < _; omega
  · show w4 < _; omega
  · show w5 < _; omega
theorem Inv_rJ {S : gk_S} {t a : Nat} (h : Inv S t) (ha : a = 350 ∨ a = 364 ∨ a = 348 ∨ a = 366) (v : Nat → Int64) : Inv (rJ S a v) t := by
  obtain ⟨h0, h1, h2, h3, h4, h5, h6, h7, h8⟩ := h
  rcases ha with rfl | rfl | rfl | rfl <;> exact ⟨h0, h1, h2, h3, h4, Ls_c h5 (fun r hr => ⟨rfl, rfl, rfl, fun i hi => ⟨rfl, xJ_lit (by omega) hr hi⟩⟩) ⟨rfl, rfl, rfl, rfl, rfl, rfl⟩ rfl rfl rfl, h6, h7, h8⟩
theorem c_match {S : gk_S} {t F : Nat} (h : Inv S t) (hF : 16400 ≤ F) (p p1 p2 p3 p4 p5 p6 p7 : Int32) : OkT (f_L_match F S 0 p p1 p2 p3 p4 p5 p6 p7 372) (fun S1 => f_X12_match F S1 352 p p1 p2 p3 p4 p5 p6 p7) t := by
  have hI := h
  obtain ⟨h0, -, -, -, -, ⟨R, L, l1, l2, l3, l4, l5, l6⟩, -⟩ := h
  rcases ix_cases p (n := 4) (by omega) with hp | ⟨k, hk, rfl⟩
  · refine okT_thr hI one_ne ?_ ?_
    · simp only [f_L_match, f_X11_match, qk_true, qk_false, qv_eq, qP_some', qP_none, qc_some', qc_none, qx_inl', qx_inr', qh_inl', qh_inr', z_i0 h0, k_ckl' hp, if_true]
    · simp only [f_X12_match, qk_true, qk_false, qv_eq, qP_some', qP_none, qc_some', qc_none, qx_inl', qx_inr', qh_inl', qh_inr', isb_cS, z_i352 h0, m_nl' (Sh_cS h0) hp, one_ne, if_false]
  rcases k_cf (S := S) (F := F) p1 p2 p5 p6 with ⟨hb, e⟩ | ⟨w0, w1, w4, w5, c0, c1, c4, c5, rfl, rfl, rfl, rfl, e⟩
  · refine okT_thr hI two_ne ?_ (m_matchb (Sh_cS h0) hk (Or.inl hb))
    simp only [f_L_match, f_X11_match, qk_true, qk_false, qv_eq, qP_some', qP_none, qc_some', qc_none, qx_inl', qx_inr', qh_inl', qh_inr', z_i0 h0, k_ckl hk, e, xAI, if_false, if_true]
  rcases ix_cases p7 (n := 4) (by omega) with hb | ⟨s, hs, rfl⟩
  · refine okT_thr hI two_ne ?_ (m_matchb (Sh_cS h0) hk (Or.inr hb))
    simp only [f_L_match, f_X11_match, f_X11_match_24, qk_true, qk_false, qv_eq, qP_some', qP_none, qc_some', qc_none, qx_inl', qx_inr', qh_inl', qh_inr', z_i0 h0, k_ckl hk, e]
    by_cases q : p7 < 0
    · simp only [q, if_true, qk_true, qk_false, qv_eq, qP_some', qP_none, qc_some', qc_none, qx_inl', qx_inr', qh_inl', qh_inr', xAI, if_false]
    · simp only [q, if_false, show ¬ p7 < 4 from Int32.not_lt.mpr (hb.resolve_left q), qk_true, qk_false, qv_eq, qP_some', qP_none, qc_some', qc_none, qx_inl', qx_inr', qh_inl', qh_inr', xAI, if_true]
  obtain ⟨wl, cl, ml⟩ := l5 k hk
  have hr := l1 k (by omega)
  have d1 := inb_n hk (by omega : 4 < 2 ^ 31)
  have d2 := nI_clamp (by omega : k < 2 ^ 31)
  have u2 := un_lt p3
  have u3 := un_lt p4
  have pl := pkt_lt (w6 := 0) (by omega : w0 < 2 ^ 32) (by omega : w1 < 2 ^ 32) (by omega : un p3 < 2 ^ 32) (by omega : un p4 < 2 ^ 32) (by omega : w4 < 2 ^ 32) (by omega : w5 < 2 ^ 32)
  generalize hpk : pkt w0 w1 (un p3) (un p4) w4 w5 0 = P at pl
  have f1 := k_fill (S := S) (F := F) (z_i349 h0) (z_p200_349 h0) (z_i350 h0) (z_l350 h0) (by omega : w0 < 2 ^ 31) (by omega : w1 < 2 ^ 31) (by omega : w4 < 2 ^ 31) (by omega : w5 < 2 ^ 31) p3 p4 0
  rw [hpk] at f1
  have H1 : Sh (rJ S 350 (fl6 (xJ S 350) P)) := h0
  have k1 : f_X6_firstFor F (rJ S 350 (fl6 (xJ S 350) P)) (R k) 349 (nI s) = some (ix (fst (L k) P s) (L k).n, rJ S 350 (fl6 (xJ S 350) P)) := by
    refine k_first H1 hF hr (CL_c cl rfl rfl fun i hi => xJ_lit (by omega) hr (by have := wl.1; omega)) wl (z_i349 h0) (z_p200_349 h0) (z_i350 h0) (z_l350 h0) (fun f hf => ⟨?_, pl f hf⟩) hs
    show fl6 (xJ S 350) P f = _
    exact fl6_at _ _ f hf
  refine ⟨0, wJ (rJ S 350 (fl6 (xJ S 350) P)) 372 0 (ix (fst (L k) P s) (L k).n).toInt64, ix (fst (L k) P s) (L k).n, rJ (sI (wJ (rJ S 350 (fl6 (xJ S 350) P)) 372 0 (ix (fst (L k) P s) (L k).n).toInt64) 900 352 0) 364 (fl6 (xJ S 364) P), ?_, ?_, rfl, fun _ => rfl, Inv_rJ (Inv_thr (Inv_out (Inv_rJ hI (by omega) _) _) 0) (by omega) _⟩
  · simp only [f_L_match, f_X11_match, qk_true, qk_false, qv_eq, qP_some', qP_none, qc_some', qc_none, qx_inl', qx_inr', qh_inl', qh_inr', z_i0 h0, k_ckl hk, e, show ¬ nI s < 0 from nI_pos (by omega), show nI s < 4 from nI_lt (b := 4) hs (by omega), if_true, if_false, z_p808_0 h0, z_i349 h0, f1, isb_rJ, gP_rJ, gL_rJ, aP, xP_rJ, z_p802_0 h0, z_i5 h0, z_l5 h0, d1, d2, l3 k hk, z_r h0 hr, k1, z_i372 h0, z_l372 h0, in0_1]
  · generalize hv : (ix (fst (L k) P s) (L k).n) = v
    have H2 : Sh (sI (wJ (rJ S 350 (fl6 (xJ S 350) P)) 372 0 v.toInt64) 900 352 0) := h0
    have f2 := m_point (F := F) H2 (by omega : w0 < 2 ^ 31) (by omega : w1 < 2 ^ 31) (by omega : w4 < 2 ^ 31) (by omega : w5 < 2 ^ 31) p3 p4 0
    rw [hpk] at f2
    have k2 := m_first (S := rJ (sI (wJ (rJ S 350 (fl6 (xJ S 350) P)) 372 0 v.toInt64) 900 352 0) 364 (fl6 (xJ S 364) P)) (F := F) h0 hF (by omega : k < 6) (L := L k) (ML_c ml ⟨rfl, rfl, rfl, rfl, rfl, rfl⟩) wl (p := P) (fun f hf => ⟨fl6_at _ _ f hf, pl f hf⟩) hs
    rw [hv] at k2
    have e9 : xJ (sI (wJ (rJ S 350 (fl6 (xJ S 350) P)) 372 0 v.toInt64) 900 352 0) 364 = xJ S 364 := rfl
    rw [e9] at f2
    simp only [f_X12_match, qk_true, qk_false, qv_eq, qP_some', qP_none, qc_some', qc_none, qx_inl', qx_inr', qh_inl', qh_inr', isb_wJ, isb_rJ, z_i352 h0, m_nl (Sh_out H1 _) hk, if_true, show (3 : Int32) = nI 3 from rfl, show (255 : Int32) = nI 255 from rfl, show (65535 : Int32) = nI 65535 from rfl, m_no0 (n := 3) (by omega) c0, m_no0 (n := 255) (by omega) c1, m_no0 (n := 65535) (by omega) c4, m_no0 (n := 65535) (by omega) c5, m_no0 (n := 3) (by omega) hs, f_X12_match_61, isb_sI, m_ti0 H2, sI_sI, f2, k2]
