section WIRE3
variable {S : gk_S} {F m : Nat} {g : Nat → Int32}
theorem k_flt5 (h : CO S 1 g m) (hF : 16400 ≤ F) (hm : m ≤ 2100) (h20 : 20 ≤ m) {T : Nat} (hT : T ≤ m) : (qc (f_X10_isWhole F S 1 (nI T)) fun x68 S69 => if x68 = (0 : Int32) then (some ((6 : Int32), S69)) else qc (f_X10_isSummed F S69 1 (nI T)) fun x74 S75 => if x74 = (0 : Int32) then (some (7, S75)) else some (0, S75)) = some (nI (if whl g m T = false then 6 else if smd g m T = false then 7 else 0), S) := by
  rw [k_whole h hm h20 hT]
  simp only [qk_true, qk_false, qv_eq, qP_some', qP_none, qc_some', qc_none, qx_inl', qx_inr', qh_inl', qh_inr', bI0]
  by_cases c8 : whl g m T = false
  · rw [if_pos c8, if_pos c8]; rfl
  · rw [if_neg c8, if_neg c8]
    have cw : whl g m T = true := by
      cases e : whl g m T
      · exact absurd e c8
      · rfl
    simp only [k_smd h hF hm h20 hT cw, qk_true, qk_false, qv_eq, qP_some', qP_none, qc_some', qc_none, qx_inl', qx_inr', qh_inl', qh_inr', bI0]
    by_cases c9 : smd g m T = false
    · rw [if_pos c9, if_pos c9]; rfl
    · rw [if_neg c9, if_neg c9]; rfl
theorem k_flt4 (h : CO S 1 g m) (hF : 16400 ≤ F) (hm : m ≤ 2100) (h20 : 20 ≤ m) {T : Nat} (hT : T ≤ m) (hl : T ≤ 60) : (qc (f_X10_sum F S 1 0 (nI T) 0) fun x46 S47 => if x46 = (65535 : Int32) then (qk (isb S47 1 1) <| qc (f_X2_at F S47 1 6) fun x54 S55 => if (x54 &&& 63) = (0 : Int32) then (qk (isb S55 1 1) <| qc (f_X2_at F S55 1 7) fun x62 S63 => if x62 = (0 : Int32) then (qc (f_X10_isWhole F S63 1 (nI T)) fun x68 S69 => if x68 = (0 : Int32) then (some (6, S69)) else qc (f_X10_isSummed F S69 1 (nI T)) fun x74 S75 => if x74 = (0 : Int32) then (some (7, S75)) else some (0, S75)) else some (5, S63)) else some (5, S55)) else some (4, S47)) = some (nI (if ¬ fd (fd (rsm g T 0)) = 65535 then 4 else if ¬ bt g 6 % 64 = 0 ∨ ¬ bt g 7 = 0 then 5 else if whl g m T = false then 6 else if smd g m T = false then 7 else 0), S) := by
  have b6 := bt_lt g 6
  have b7 := bt_lt g 7
  have a6 : f_X2_at F S 1 6 = some (nI (bt g 6), S) := h.1 F 6 (by omega)
  have a7 : f_X2_at F S 1 7 = some (nI (bt g 7), S) := h.1 F 7 (by omega)
  have sm : f_X10_sum F S 1 0 (nI T) 0 = some (nI (fd (fd (0 + rsm g T 0))), S) := k_sum (F := F) (k := 0) (A := 0) h hF hT (by omega) (by omega) (by omega)
  rw [Nat.zero_add] at sm
  have fl : fd (fd (rsm g T 0)) < 2 ^ 31 := by
    have := rsm_le g T 0
    unfold fd
    omega
  generalize fd (fd (rsm g T 0)) = z at sm fl ⊢
  have z1 : nI z = 65535 ↔ z = 65535 := nI_eq (b := 65535) fl (by omega)
  have z2 : nI (bt g 6) &&& 63 = nI (bt g 6 % 64) := pk_andN (by omega) 6 (by decide)
  have z3 : nI (bt g 6 % 64) = 0 ↔ bt g 6 % 64 = 0 := nI_eq (b := 0) (by omega) (by omega)
  have z4 : nI (bt g 7) = 0 ↔ bt g 7 = 0 := nI_eq (b := 0) (by omega) (by omega)
  rw [sm]
  simp only [qk_true, qk_false, qv_eq, qP_some', qP_none, qc_some', qc_none, qx_inl', qx_inr', qh_inl', qh_inr', z1, h.2.2.1, a6, a7, z2, z3, z4, k_flt5 h hF hm h20 hT]
  by_cases c5 : z = 65535
  · rw [if_pos c5, if_neg (not_not_intro c5)]
    by_cases c6 : bt g 6 % 64 = 0
    · rw [if_pos c6]
      by_cases c7 : bt g 7 = 0
      · rw [if_pos c7, if_neg (show ¬ (¬ bt g 6 % 64 = 0 ∨ ¬ bt g 7 = 0) by omega)]
      · rw [if_neg c7, if_pos (show ¬ bt g 6 % 64 = 0 ∨ ¬ bt g 7 = 0 by omega)]; rfl
    · rw [if_neg c6, if_pos (show ¬ bt g 6 % 64 = 0 ∨ ¬ bt g 7 = 0 by omega)]; rfl
  · rw [if_neg c5, if_pos c5]; rfl
theorem k_fault (h : CO S 1 g m) (hF : 16400 ≤ F) (hm : m ≤ 2100) : f_X10_faultOf F S 1 = some (nI (flt g m), S) := by
  unfold flt
  by_cases c1 : m < 20
  · have z20 : ¬ (20 : Int32) ≤ nI m := nI_ge (b := 20) c1 (by omega)
    rw [if_pos c1]
    unfold f_X10_faultOf
    rw [h.2.2.1, qk_true, qv_eq, h.2.2.2.1, if_neg z20]
    rfl
  rw [if_neg c1]
  have b0 := bt_lt g 0
  have w2 := wd_lt g 2
  have hl := hdr_lt g 0
  have a0 : f_X2_at F S 1 0 = some (nI (bt g 0), S) := h.1 F 0 (by omega)
  have p2 : f_X2_pair F S 1 2 = some (nI (wd g 2), S) := k_pair h (by omega : 2 + 1 < m)
  have z2 : nI (wd g 2) = nI m ↔ wd g 2 = m := nI_eq (by omega) (by omega)
  have z3 : nI (hdr g 0) ≤ nI m ↔ hdr g 0 ≤ m := nI_leI (by omega) (by omega)
  have z20 : (20 : Int32) ≤ nI m := nI_le (a := 20) (by omega) (by omega)
  unfold f_X10_faultOf
  rw [h.2.2.1, qk_true, qv_eq, h.2.2.2.1, if_pos z20, a0, qc_some', k_isF b0, qc_some']
  by_cases c2 : okf (bt g 0) = false
  · rw [if_pos (show bI (okf (bt g 0)) = 0 from (bI0 _).mpr c2), if_pos c2]; rfl
  rw [if_neg (show ¬ bI (okf (bt g 0)) = 0 from fun e => c2 ((bI0 _).mp e)), if_neg c2, h.2.2.1, qk_true, a0, qc_some', k_hdr0 g 0, qc_some', h.2.2.1, qk_true, p2, qc_some', h.2.2.1, qk_true, qv_eq, h.2.2.2.1]
  by_cases c3 : wd g 2 = m
  · rw [if_pos (z2.mpr c3), qv_eq]
    by_cases c4 : hdr g 0 ≤ m
    · rw [if_pos (z3.mpr c4), if_neg (show ¬ (¬ wd g 2 = m ∨ m < hdr g 0) by omega)]
      exact k_flt4 h hF hm (by omega) c4 hl
    · rw [if_neg (fun e => c4 (z3.mp e)), if_pos (show ¬ wd g 2 = m ∨ m < hdr g 0 by omega)]; rfl
  · rw [if_neg (fun e => c3 (z2.mp e)), if_pos (show ¬ wd g 2 = m ∨ m < hdr g 0 by omega)]; rfl
end WIRE3
