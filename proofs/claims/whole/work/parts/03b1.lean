theorem isb_oc (S : gk_S) (a b : Nat) (g : Nat → Int32) (m c k : Nat) : isb (oc S a b g m) c k = isb S c k := rfl
theorem gP_oc (S : gk_S) (a b : Nat) (g : Nat → Int32) (m : Nat) : gP (oc S a b g m) = gP S := rfl
theorem gL_oc (S : gk_S) (a b : Nat) (g : Nat → Int32) (m : Nat) : gL (oc S a b g m) = gL S := rfl
theorem gI_oc (S : gk_S) (a b : Nat) (g : Nat → Int32) (m : Nat) : gI (oc S a b g m) 101 a = nI m := by unfold oc; rw [gI_sI, if_pos ⟨rfl, rfl⟩]
theorem isb_mo (S : gk_S) (g : Nat → Int32) (m c k : Nat) : isb (mo S g m) c k = isb S c k := rfl
theorem gI_mo (S : gk_S) (g : Nat → Int32) (m : Nat) : gI (mo S g m) 902 352 = nI m := rfl
theorem tapeH {S : gk_S} (h : Sh S) : OcH S 1 2 2100 := ⟨z_i1 h, z_p100_1 h, z_i2 h, z_l2 h, by omega⟩
theorem outH {S : gk_S} (h : Sh S) : OcH S 3 4 3000 := ⟨z_i3 h, z_p100_3 h, z_i4 h, z_l4 h, by omega⟩
def q20 (g : Nat → Int32) (m : Nat) (a b c d e : Int32) : Nat → Int32 := q4 (q4 (q4 (q4 (q4 g m a) (m + 4) b) (m + 8) c) (m + 12) d) (m + 16) e
theorem k_feed {S : gk_S} (h : Sh S) {F m : Nat} (hm : m + 20 ≤ 2100) (g : Nat → Int32) (a b c d e : Int32) : f_X11_feed F (oc S 1 2 g m) 0 a b c d e = some (nI (m + 20), oc S 1 2 (q20 g m a b c d e) (m + 20)) := by
  have e0 : nI m + 20 ≤ 2100 := by rw [show nI m + 20 = nI (m + 20) from nI_add m 20]; exact nI_le (a := m + 20) (b := 2100) hm (by omega)
  have H := tapeH h
  simp only [f_X11_feed, qk_true, qk_false, qv_eq, qP_some', qP_none, qc_some', qc_none, qx_inl', qx_inr', qh_inl', qh_inr', isb_oc, gP_oc, gI_oc, z_i0 h, z_p800_0 h, z_i1 h, e0, if_true, o_quad H (by omega : m + 3 < 2100), o_quad H (by omega : m + 4 + 3 < 2100), o_quad H (by omega : m + 4 + 4 + 3 < 2100), o_quad H (by omega : m + 4 + 4 + 4 + 3 < 2100), o_quad H (by omega : m + 4 + 4 + 4 + 4 + 3 < 2100)]
  rfl
theorem j_feed {S : gk_S} (h : Sh S) {F m : Nat} (hF : 16400 ≤ F) (hm : m + 20 ≤ 2100) (g : Nat → Int32) (a b c d e : Int32) : f_X12_feed F (mo S g m) 352 a b c d e = some (nI (m + 20), mo (sI S 900 352 0) (q20 g m a b c d e) (m + 20)) := by
  have e0 : nI m + 20 ≤ 2100 := by rw [show nI m + 20 = nI (m + 20) from nI_add m 20]; exact nI_le (a := m + 20) (b := 2100) hm (by omega)
  have h' : Sh (sI S 900 352 0) := h
  have e1 : sI (mo S g m) 900 352 0 = mo (sI S 900 352 0) g m := sI_comm _ (Or.inl (by decide)) _ _
  simp only [f_X12_feed, qk_true, qk_false, qv_eq, qP_some', qP_none, qc_some', qc_none, qx_inl', qx_inr', qh_inl', qh_inr', e1, isb_mo, gI_mo, z_i352 h, z_i352 h', e0, if_true, m_four h' hF (by omega : m + 3 < 2100), m_four h' hF (by omega : m + 4 + 3 < 2100), m_four h' hF (by omega : m + 4 + 4 + 3 < 2100), m_four h' hF (by omega : m + 4 + 4 + 4 + 3 < 2100), m_four h' hF (by omega : m + 4 + 4 + 4 + 4 + 3 < 2100)]
  rfl
theorem b8_upd {g : Nat → Int32} (h : ∀ i, b8 (g i) = g i) (m : Nat) (x : Int32) : ∀ i, b8 (upd g m (b8 x) i) = upd g m (b8 x) i := by
  intro i
  unfold upd
  by_cases q : i = m
  · rw [if_pos q, b8_b8]
  · rw [if_neg q]; exact h i
theorem b8_q4 {g : Nat → Int32} (h : ∀ i, b8 (g i) = g i) (m : Nat) (x : Int32) : ∀ i, b8 (q4 g m x i) = q4 g m x i := b8_upd (b8_upd (b8_upd (b8_upd h _ _) _ _) _ _) _ _
