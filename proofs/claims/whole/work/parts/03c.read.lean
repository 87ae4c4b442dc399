/-! calls that may throw -/
def OkT (A : Option (Int32 × gk_S)) (B : gk_S → Option (Int32 × gk_S)) (t : Nat) : Prop := ∃ k S1 b S2, A = some (k, S1) ∧ B S1 = some (b, S2) ∧ gI S2 900 352 = k ∧ (k = 0 → xJ S2 372 0 = b.toInt64) ∧ Inv S2 t
theorem okT_val {S : gk_S} {t : Nat} {A : Option (Int32 × gk_S)} {B : gk_S → Option (Int32 × gk_S)} {v : Int32} (h : Inv S t) (hA : A = some (0, wJ S 372 0 v.toInt64)) (hB : B (wJ S 372 0 v.toInt64) = some (v, sI (wJ S 372 0 v.toInt64) 900 352 0)) : OkT A B t := ⟨0, _, v, _, hA, hB, rfl, fun _ => rfl, Inv_thr (Inv_out h _) 0⟩
theorem okT_thr {S : gk_S} {t : Nat} {A : Option (Int32 × gk_S)} {B : gk_S → Option (Int32 × gk_S)} {k : Int32} (h : Inv S t) (hk : k ≠ 0) (hA : A = some (k, cS S)) (hB : B (cS S) = some (0, sI (cS S) 900 352 k)) : OkT A B t := ⟨k, _, 0, _, hA, hB, rfl, fun e => absurd e hk, Inv_thr (Inv_cS h) k⟩
theorem Sh_out {S : gk_S} (h : Sh S) (v : Int64) : Sh (wJ S 372 0 v) := h
theorem Sh_cS {S : gk_S} (h : Sh S) : Sh (cS S) := h
theorem m_ti0 {S : gk_S} (h : Sh S) {F : Nat} (k : Int32) : f_X12_throwsIf F S 352 0 k = some (0, sI S 900 352 0) := by
  simp only [f_X12_throwsIf, if_true, qk_true, qk_false, qv_eq, qP_some', qP_none, qc_some', qc_none, qx_inl', qx_inr', qh_inl', qh_inr', z_i352 h, show zb 0 = true from rfl]
theorem m_ti1 {S : gk_S} (h : Sh S) {F : Nat} (k : Int32) : f_X12_throwsIf F S 352 1 k = some (1, sI S 900 352 k) := by
  simp only [f_X12_throwsIf, show ¬ (1 : Int32) = 0 by decide, if_false, qk_true, qk_false, qv_eq, qP_some', qP_none, qc_some', qc_none, qx_inl', qx_inr', qh_inl', qh_inr', z_i352 h, show zb 1 = true from rfl]
theorem in0_1 : inb 0 1 = true := rfl
theorem one_ne : ¬ (1 : Int32) = 0 := by decide
theorem xEA : ¬ gx_E = gx_I := by decide
theorem xAI : ¬ gx_A = gx_I := by decide
theorem k_ckl {S : gk_S} {F k : Nat} (hk : k < 4) : f_X11_checkList F S (nI k) = some (.inl (), S) := by
  simp only [f_X11_checkList, show ¬ nI k < 0 from nI_pos (by omega), if_false, show nI k < 4 from nI_lt (b := 4) hk (by omega), if_true]
theorem k_ckl' {S : gk_S} {F : Nat} {p : Int32} (h : p < 0 ∨ nI 4 ≤ p) : f_X11_checkList F S p = some (.inr gx_I, cS S) := by
  unfold f_X11_checkList f_X11_checkList_9
  by_cases h1 : p < 0
  · rw [if_pos h1]
  · rw [if_neg h1, if_neg]
    exact Int32.not_lt.mpr (h.resolve_left h1)
theorem m_nl {S : gk_S} (h : Sh S) {F k : Nat} (hk : k < 4) : f_X12_noList F S 352 (nI k) = some (0, sI S 900 352 0) := by
  simp only [f_X12_noList, show ¬ nI k < 0 from nI_pos (by omega), if_false, show nI k ≤ 3 from nI_le (b := 3) (by omega) (by omega), if_true, f_X12_noList_15, qk_true, qk_false, qv_eq, qP_some', qP_none, qc_some', qc_none, qx_inl', qx_inr', qh_inl', qh_inr', z_i352 h, m_ti0 h, show zb 0 = true from rfl]
theorem m_nl' {S : gk_S} (h : Sh S) {F : Nat} {p : Int32} (hp : p < 0 ∨ nI 4 ≤ p) : f_X12_noList F S 352 p = some (1, sI S 900 352 1) := by
  have e : f_X12_noList_15 F 1 352 S = some (1, sI S 900 352 1) := by
    simp only [f_X12_noList_15, qk_true, qk_false, qv_eq, qP_some', qP_none, qc_some', qc_none, qx_inl', qx_inr', qh_inl', qh_inr', z_i352 h, m_ti1 h, show zb 1 = true from rfl]
  unfold f_X12_noList
  by_cases h1 : p < 0
  · rw [if_pos h1, e]
  · rw [if_neg h1, if_neg, e]
    intro h2
    have h3 := hp.resolve_left h1
    rw [Int32.le_iff_toInt_le] at h2 h3
    rw [nI_toInt (by omega)] at h3
    have h4 : (3 : Int32).toInt = 3 := rfl
    omega
theorem k_at {S : gk_S} (h : Sh S) {r : Nat} (hr : Ba r) {F i : Nat} (hi : i < 16) : f_X6_at F S r (nI i) = some (ru r i, S) := by
  simp only [f_X6_at, qk_true, qk_false, qv_eq, qP_some', qP_none, qc_some', qc_none, qx_inl', qx_inr', qh_inl', qh_inr', z_r h hr, z_rp h hr, z_rr h hr, z_rl h hr, show ¬ nI i < 0 from nI_pos (by omega), if_false, show ¬ (16 : Int32) ≤ nI i from nI_ge (b := 16) hi (by omega), inb_n hi (by omega : 16 < 2 ^ 31), aP, nI_clamp (by omega : i < 2 ^ 31), z_rx h hr hi]
theorem ix_cases (p : Int32) {n : Nat} (hn : n < 2 ^ 31) : (p < 0 ∨ nI n ≤ p) ∨ ∃ j : Nat, j < n ∧ p = nI j := by
  rcases pk_ix p hn with h | h | h
  · exact Or.inl (Or.inl h)
  · exact Or.inl (Or.inr h)
  · exact Or.inr h
/-- octet -/
theorem k_oat {S : gk_S} {a b n : Nat} (h : OcH S a b n) {F m j : Nat} (hm : m ≤ n) (hj : j < m) (g1 : gI S 101 a = nI m) : f_X2_at F S a (nI j) = some (xI S b j &&& 255, S) := by
  obtain ⟨h1, h2, h3, h4, h5⟩ := h
  simp only [f_X2_at, show ¬ nI j < 0 from nI_pos (by omega), if_false, qk_true, qk_false, qv_eq, qP_some', qP_none, qc_some', qc_none, qx_inl', qx_inr', qh_inl', qh_inr', h1, h2, h3, h4, g1, show ¬ nI m ≤ nI j from nI_ge hj (by omega), show ¬ nI n ≤ nI j from nI_ge (by omega) (by omega), inb_n (by omega : j < n) (by omega), aI, nI_clamp (by omega : j < 2 ^ 31)]
theorem c_octet {S : gk_S} {t F : Nat} (h : Inv S t) (p : Int32) : OkT (f_L_octet F S 0 p 372) (fun S1 => f_X12_octet F S1 352 p) t := by
  have hI := h
  obtain ⟨h0, -, ⟨m, hm, g1, g2, g3⟩, -⟩ := h
  rcases ix_cases p (n := m) (by omega) with hp | ⟨j, hj, rfl⟩
  · refine okT_thr hI one_ne ?_ ?_
    · have e : f_X11_octet F S 0 p = some (.inr gx_E, cS S) := by
        unfold f_X11_octet
        by_cases q : p < 0
        · rw [if_pos q]; rfl
        · rw [if_neg q]
          simp only [qk_true, qk_false, qv_eq, qP_some', qP_none, qc_some', qc_none, qx_inl', qx_inr', qh_inl', qh_inr', z_i0 h0, z_p801_0 h0, z_i3 h0, g1, show ¬ p < nI m from Int32.not_lt.mpr (hp.resolve_left q), if_false]
          rfl
      simp only [f_L_octet, qk_true, qk_false, qv_eq, qP_some', qP_none, qc_some', qc_none, qx_inl', qx_inr', qh_inl', qh_inr', z_i0 h0, e, if_true]
    · have e : f_X12_octet_18 F 352 p 1 352 (cS S) = some (0, sI (cS S) 900 352 1) := by
        simp only [f_X12_octet_18, qk_true, qk_false, qv_eq, qP_some', qP_none, qc_some', qc_none, qx_inl', qx_inr', qh_inl', qh_inr', isb_cS, z_i352 h0, m_ti1 (Sh_cS h0), one_ne, if_false]
      unfold f_X12_octet
      by_cases q : p < 0
      · rw [if_pos q, e]
      · rw [if_neg q]
        simp only [qk_true, qk_false, qv_eq, qP_some', qP_none, qc_some', qc_none, qx_inl', qx_inr', qh_inl', qh_inr', isb_cS, z_i352 h0, gI_cS, g2, show ¬ p < nI m from Int32.not_lt.mpr (hp.resolve_left q), if_false, e]
  · refine okT_val (v := xI S 4 j &&& 255) hI ?_ ?_
    · simp only [f_L_octet, f_X11_octet, show ¬ nI j < 0 from nI_pos (by omega), if_false, qk_true, qk_false, qv_eq, qP_some', qP_none, qc_some', qc_none, qx_inl', qx_inr', qh_inl', qh_inr', z_i0 h0, z_p801_0 h0, z_i3 h0, g1, show nI j < nI m from nI_lt hj (by omega), if_true, k_oat (outH h0) hm hj g1, z_i372 h0, z_l372 h0, in0_1]
    · simp only [f_X12_octet, show ¬ nI j < 0 from nI_pos (by omega), if_false, qk_true, qk_false, qv_eq, qP_some', qP_none, qc_some', qc_none, qx_inl', qx_inr', qh_inl', qh_inr', isb_wJ, z_i352 h0, gI_wJ, g2, show nI j < nI m from nI_lt hj (by omega), if_true, f_X12_octet_18, m_ti0 (Sh_out h0 _), isb_sI, gP_sI, gP_wJ, z_p920_352 h0, z_i363 h0, gL_sI, gL_wJ, z_l363 h0, inb_n (by omega : j < 3000) (by omega), aI, nI_clamp (by omega : j < 2 ^ 31), xI_sI, xI_wJ, g3]
/-- rules -/
theorem c_rules {S : gk_S} {t F : Nat} (h : Inv S t) (p : Int32) : OkT (f_L_rules F S 0 p 372) (fun S1 => f_X12_rules F S1 352 p) t := by
  have hI := h
  obtain ⟨h0, -, -, -, -, ⟨R, L, l1, l2, l3, l4, l5, l6⟩, -⟩ := h
  rcases ix_cases p (n := 4) (by omega) with hp | ⟨k, hk, rfl⟩
  · refine okT_thr hI one_ne ?_ ?_
    · simp only [f_L_rules, f_X11_rules, qk_true, qk_false, qv_eq, qP_some', qP_none, qc_some', qc_none, qx_inl', qx_inr', qh_inl', qh_inr', z_i0 h0, k_ckl' hp, if_true]
    · simp only [f_X12_rules, qk_true, qk_false, qv_eq, qP_some', qP_none, qc_some', qc_none, qx_inl', qx_inr', qh_inl', qh_inr', isb_cS, z_i352 h0, m_nl' (Sh_cS h0) hp, one_ne, if_false]
  · have w := l5 k hk
    refine okT_val (v := nI (L k).n) hI ?_ ?_
    · simp only [f_L_rules, f_X11_rules, qk_true, qk_false, qv_eq, qP_some', qP_none, qc_some', qc_none, qx_inl', qx_inr', qh_inl', qh_inr', z_i0 h0, k_ckl hk, z_p802_0 h0, z_i5 h0, z_l5 h0, inb_n hk (by omega : 4 < 2 ^ 31), aP, nI_clamp (by omega : k < 2 ^ 31), l3 k hk, z_r h0 (l1 k (by omega)), w.2.1.1, z_i372 h0, z_l372 h0, in0_1]
    · simp only [f_X12_rules, qk_true, qk_false, qv_eq, qP_some', qP_none, qc_some', qc_none, qx_inl', qx_inr', qh_inl', qh_inr', isb_wJ, z_i352 h0, m_nl (Sh_out h0 _) hk, if_true, isb_sI, gP_sI, gP_wJ, z_p906_352 h0, z_i355 h0, gL_sI, gL_wJ, z_l355 h0, inb_n (by omega : k < 6) (by omega), aI, nI_clamp (by omega : k < 2 ^ 31), xI_sI, xI_wJ, w.2.2.1]
/-- found -/
theorem c_found {S : gk_S} {t F : Nat} (h : Inv S t) (p : Int32) : OkT (f_L_found F S 0 p 372) (fun S1 => f_X12_found F S1 352 p) t := by
  have hI := h
  obtain ⟨h0, -, -, ⟨-, f2, f3, f4⟩, -⟩ := h
  have e1 : f_X12_found_23 F 352 p 1 352 (cS S) = some (0, sI (cS S) 900 352 1) := by
    simp only [f_X12_found_23, qk_true, qk_false, qv_eq, qP_some', qP_none, qc_some', qc_none, qx_inl', qx_inr', qh_inl', qh_inr', isb_cS, z_i352 h0, m_ti1 (Sh_cS h0), one_ne, if_false]
  by_cases f0 : gI S 811 0 = 0
  · refine okT_thr hI one_ne ?_ ?_
    · simp only [f_L_found, f_X11_found, f_X11_found_17, qk_true, qk_false, qv_eq, qP_some', qP_none, qc_some', qc_none, qx_inl', qx_inr', qh_inl', qh_inr', z_i0 h0, f0, if_true]
    · simp only [f_X12_found, qk_true, qk_false, qv_eq, qP_some', qP_none, qc_some', qc_none, qx_inl', qx_inr', qh_inl', qh_inr', isb_cS, z_i352 h0, gI_cS, ← f2, f0, if_true, e1]
  rcases ix_cases p (n := 7) (by omega) with hp | ⟨k, hk, rfl⟩
  · refine okT_thr hI one_ne ?_ ?_
    · simp only [f_L_found, f_X11_found, f_X11_found_17, qk_true, qk_false, qv_eq, qP_some', qP_none, qc_some', qc_none, qx_inl', qx_inr', qh_inl', qh_inr', z_i0 h0, f0, if_false]
      by_cases q : p < 0
      · simp only [q, if_true, qk_true, qk_false, qv_eq, qP_some', qP_none, qc_some', qc_none, qx_inl', qx_inr', qh_inl', qh_inr']
      · simp only [q, if_false, show ¬ p < 7 from Int32.not_lt.mpr (hp.resolve_left q), qk_true, qk_false, qv_eq, qP_some', qP_none, qc_some', qc_none, qx_inl', qx_inr', qh_inl', qh_inr', if_true]
    · simp only [f_X12_found, qk_true, qk_false, qv_eq, qP_some', qP_none, qc_some', qc_none, qx_inl', qx_inr', qh_inl', qh_inr', isb_cS, z_i352 h0, gI_cS, ← f2, f0, if_false]
      by_cases q : p < 0
      · simp only [q, if_true, e1]
      · have q2 : ¬ p ≤ 6 := by
          have h3 := hp.resolve_left q
          intro h2
          rw [Int32.le_iff_toInt_le] at h2 h3
          rw [nI_toInt (by omega)] at h3
          have h4 : (6 : Int32).toInt = 6 := rfl
          omega
        simp only [q, q2, if_false, e1]
  · refine okT_val (v := (xJ S 351 k).toInt32) hI ?_ ?_
    · simp only [f_L_found, f_X11_found, qk_true, qk_false, qv_eq, qP_some', qP_none, qc_some', qc_none, qx_inl', qx_inr', qh_inl', qh_inr', z_i0 h0, f0, if_false, show ¬ nI k < 0 from nI_pos (by omega), show nI k < 7 from nI_lt (b := 7) hk (by omega), if_true, z_p809_0 h0, z_i351 h0, z_l351 h0, inb_n hk (by omega : 7 < 2 ^ 31), aJ, nI_clamp (by omega : k < 2 ^ 31), z_i372 h0, z_l372 h0, in0_1]
    · simp only [f_X12_found, qk_true, qk_false, qv_eq, qP_some', qP_none, qc_some', qc_none, qx_inl', qx_inr', qh_inl', qh_inr', isb_wJ, z_i352 h0, gI_wJ, ← f2, f0, if_false, show ¬ nI k < 0 from nI_pos (by omega), show nI k ≤ 6 from nI_le (b := 6) (by omega) (by omega), if_true, f_X12_found_23, m_ti0 (Sh_out h0 _), isb_sI, gP_sI, gP_wJ, z_p923_352 h0, z_i365 h0, gL_sI, gL_wJ, z_l365 h0, inb_n hk (by omega : 7 < 2 ^ 31), aJ, nI_clamp (by omega : k < 2 ^ 31), xJ_sI, xJ_wJ, show ¬ (365 : Nat) = 372 by decide, f4 k hk]
