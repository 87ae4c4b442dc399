section WIRE2
variable {S : gk_S} {F m : Nat} {g : Nat → Int32}
theorem k_fplace (h : CO S 1 g m) (hm : m ≤ 2100) (hf : flt g m ≠ 0) : f_X10_placeOf F S (nI (flt g m)) 1 = some (nI (fpl g m), S) := by
  have fl := flt_lt g m
  have e0 : ∃ v, f_X2_at F S 1 0 = some (v, S) ∧ (1 ≤ m → v = nI (bt g 0)) := by
    by_cases r : 0 < m
    · exact ⟨_, h.1 F 0 r, fun _ => rfl⟩
    · exact ⟨_, h.2.1 F 0 (by omega) (by omega), fun e => by omega⟩
  obtain ⟨v, e0, e1⟩ := e0
  have m20 : flt g m ≠ 1 → 20 ≤ m := by
    intro e
    unfold flt at e
    by_cases c : m < 20
    · rw [if_pos c] at e; omega
    · omega
  have b0 := bt_lt g 0
  have b9 := bt_lt g 9
  have hv : flt g m ≠ 1 → f_X10_headerOf F S v = some (nI (hdr g 0), S) := fun e => by rw [e1 (by have := m20 e; omega)]; exact k_hdr b0
  have hv' : ∃ u, f_X10_headerOf F S v = some (u, S) := ⟨_, rfl⟩
  obtain ⟨u, hu⟩ := hv'
  have uu : flt g m ≠ 1 → u = nI (hdr g 0) := fun e => by
    have := hv e
    rw [hu] at this
    exact congrArg Prod.fst (Option.some.inj this)
  have eqs : ∀ j, j < 8 → (nI (flt g m) = nI j ↔ flt g m = j) := fun j hj => nI_eq (by omega) (by omega)
  simp only [f_X10_placeOf, qk_true, qk_false, qv_eq, qP_some', qP_none, qc_some', qc_none, qx_inl', qx_inr', qh_inl', qh_inr', h.2.2.1, h.2.2.2.1, e0, hu, show nI (flt g m) = 1 ↔ flt g m = 1 from eqs 1 (by omega), show nI (flt g m) = 2 ↔ flt g m = 2 from eqs 2 (by omega), show nI (flt g m) = 3 ↔ flt g m = 3 from eqs 3 (by omega), show nI (flt g m) = 4 ↔ flt g m = 4 from eqs 4 (by omega), show nI (flt g m) = 5 ↔ flt g m = 5 from eqs 5 (by omega), show nI (flt g m) = 6 ↔ flt g m = 6 from eqs 6 (by omega), show nI (flt g m) = 7 ↔ flt g m = 7 from eqs 7 (by omega)]
  unfold fpl
  by_cases c1 : flt g m = 1
  · rw [if_pos c1, if_pos c1]
  rw [if_neg c1, if_neg c1]
  have u1 := uu c1
  have m2 := m20 c1
  by_cases c2 : flt g m = 2
  · rw [if_pos c2, if_pos c2]; rfl
  rw [if_neg c2, if_neg c2]
  by_cases c3 : flt g m = 3
  · rw [if_pos c3, if_pos c3]; rfl
  rw [if_neg c3, if_neg c3]
  by_cases c4 : flt g m = 4
  · rw [if_pos c4, if_pos c4]; rfl
  rw [if_neg c4, if_neg c4]
  by_cases c5 : flt g m = 5
  · rw [if_pos c5, if_pos c5]; rfl
  rw [if_neg c5, if_neg c5]
  by_cases c6 : flt g m = 6
  · rw [if_pos c6, if_pos c6, u1]
  rw [if_neg c6, if_neg c6]
  have c7 : flt g m = 7 := by omega
  have a9 : f_X2_at F S 1 9 = some (nI (bt g 9), S) := h.1 F 9 (by omega)
  rw [if_pos c7, if_pos c7, a9, u1]
  simp only [qk_true, qk_false, qv_eq, qP_some', qP_none, qc_some', qc_none, qx_inl', qx_inr', qh_inl', qh_inr', f_X10_sumPlace, show nI (bt g 9) = 6 ↔ bt g 9 = 6 from nI_eq (b := 6) (by omega) (by omega), show nI (bt g 9) = 17 ↔ bt g 9 = 17 from nI_eq (b := 17) (by omega) (by omega)]
  unfold spl
  by_cases d6 : bt g 9 = 6
  · rw [if_pos d6, if_pos d6]
    simp only [qk_true, qk_false, qv_eq, qP_some', qP_none, qc_some', qc_none, qx_inl', qx_inr', qh_inl', qh_inr', show nI (hdr g 0) + 16 = nI (hdr g 0 + 16) from nI_add _ 16]
  rw [if_neg d6, if_neg d6]
  by_cases d17 : bt g 9 = 17
  · rw [if_pos d17, if_pos d17]
    simp only [qk_true, qk_false, qv_eq, qP_some', qP_none, qc_some', qc_none, qx_inl', qx_inr', qh_inl', qh_inr', show nI (hdr g 0) + 6 = nI (hdr g 0 + 6) from nI_add _ 6]
  · rw [if_neg d17, if_neg d17]
    simp only [qk_true, qk_false, qv_eq, qP_some', qP_none, qc_some', qc_none, qx_inl', qx_inr', qh_inl', qh_inr', show nI (hdr g 0) + 2 = nI (hdr g 0 + 2) from nI_add _ 2]
end WIRE2
