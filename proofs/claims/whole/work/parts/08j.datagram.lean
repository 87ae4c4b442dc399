section MDG3
variable {S : gk_S} {F m : Nat} {g : Nat → Int32}
theorem flt_2 (h : ¬ m < 20) (e : okf (bt g 0) = false) : flt g m = 2 := by unfold flt; rw [if_neg h, if_pos e]
theorem m_dg (h : Sh S) (hg : xI S 353 = g) (hF : 16400 ≤ F) (hm : m ≤ 2100) (hb7 : b8 (g 7) = g 7) (g9 : gI S 902 352 = nI m) {w0 : Nat} (hw0 : w0 < 4) :
    (flt g m ≠ 0 → f_X12_datagram F S 352 (nI w0) = some ((-1) - nI (fpl g m), sI (sI (sI S 900 352 0) 902 352 0) 918 352 (nI (flt g m)))) ∧
    (flt g m = 0 → f_X12_datagram F S 352 (nI w0) = f_X12_datagram_341 F 352 (nI w0) (nI m) (nI (hdr g 0)) (nI (bt g 9)) (sI (sI S 900 352 0) 902 352 0) ∧ 20 ≤ m ∧ hdr g 0 ≤ m ∧ whl g m (hdr g 0) = true) := by
  have H0 := Sh_sI h 900 352 0
  have H := Sh_sI H0 902 352 0
  have G : xI (sI (sI S 900 352 0) 902 352 0) 353 = g := hg
  have g9' : gI (sI S 900 352 0) 902 352 = nI m := g9
  have m3 : f_X12_isNone F S (nI w0) 3 = some (0, S) := m_no0 (n := 3) (by omega) hw0
  unfold f_X12_datagram
  rw [m3, qc_some', z_i352 h, qk_true, m_ti0 h, qc_some', if_pos rfl, z_i352 H0, qk_true, qv_eq, qv_eq, g9']
  generalize hB : sI (sI S 900 352 0) 902 352 0 = B at H G ⊢
  have z20 : (20 : Int32) ≤ nI m ↔ 20 ≤ m := nI_leI (a := 20) (by omega) (by omega)
  have bad : ∀ {k pl : Nat} {X : Option (Int32 × gk_S)}, flt g m = k → k ≠ 0 → fpl g m = pl → X = some ((-1) - nI pl, sI B 918 352 (nI k)) → (flt g m ≠ 0 → X = some ((-1) - nI (fpl g m), sI B 918 352 (nI (flt g m)))) ∧ (flt g m = 0 → X = f_X12_datagram_341 F 352 (nI w0) (nI m) (nI (hdr g 0)) (nI (bt g 9)) B ∧ 20 ≤ m ∧ hdr g 0 ≤ m ∧ whl g m (hdr g 0) = true) := by
    intro k pl X e1 e2 e3 e4
    exact ⟨fun _ => by rw [e3, e1]; exact e4, fun e => absurd (e1.symm.trans e) e2⟩
  by_cases c1 : m < 20
  · have ef : flt g m = 1 := by unfold flt; rw [if_pos c1]
    rw [if_neg (fun e => by have := z20.mp e; omega)]
    refine bad ef (by decide) (show fpl g m = m by unfold fpl; rw [if_pos ef]) ?_
    rw [m_fty H, qc_some']
    rfl
  rw [if_pos (z20.mpr (by omega))]
  have b0 := bt_lt g 0
  have bb0 := m_byte H G (by omega : 0 < 2100)
  have z69 : nI (bt g 0) < 69 ↔ bt g 0 < 69 := nI_ltI (b := 69) (by omega) (by omega)
  have z79 : nI (bt g 0) ≤ 79 ↔ bt g 0 ≤ 79 := nI_leI (b := 79) (by omega) (by omega)
  rw [z_p901_352 H, qP_some', z_i353 H, qk_true, show inb 0 (gL B 353) = true from bb0.1, qk_true, qv_eq, show aI B 353 0 &&& 255 = nI (bt g 0) from bb0.2.2]
  have c61 : f_X12_datagram_61 F 352 B = some ((-1) - nI 0, sI B 918 352 (nI 2)) := by
    unfold f_X12_datagram_61
    rw [z_i352 H, qk_true, m_fty H, qc_some']
    rfl
  cases ho : okf (bt g 0)
  · have ef := flt_2 (g := g) c1 ho
    have ho2 := ho
    unfold okf at ho2
    have ho2 := of_decide_eq_false ho2
    have fp : fpl g m = 0 := by unfold fpl; rw [ef]; rfl
    by_cases q : bt g 0 < 69
    · rw [if_pos (z69.mpr q)]; exact bad ef (by decide) fp c61
    · rw [if_neg (fun e => q (z69.mp e)), if_neg (fun e => ho2 ⟨by omega, z79.mp e⟩)]; exact bad ef (by decide) fp c61
  have oh := okf_hdr ho
  have ho2 := ho
  unfold okf at ho2
  have ho2 := of_decide_eq_true ho2
  have ho' : ¬ okf (bt g 0) = false := by rw [ho]; decide
  have eT : 4 * (nI (bt g 0) - 64) = nI (hdr g 0) := by
    rw [show (64 : Int32) = nI 64 from rfl, show (4 : Int32) = nI 4 from rfl, pk_sub oh.1, pk_mul]
    unfold hdr
    rw [oh.2]
  have hl := hdr_lt g 0
  have w2 := wd_lt g 2
  have p2 : f_X12_two F B 352 2 = some (nI (wd g 2), B) := m_two H G (by omega : 2 + 1 < 2100)
  have zw : nI (wd g 2) = nI m ↔ wd g 2 = m := nI_eq (by omega) (by omega)
  have zh : nI (hdr g 0) ≤ nI m ↔ hdr g 0 ≤ m := nI_leI (by omega) (by omega)
  have c91 : f_X12_datagram_91 F 352 B = some ((-1) - nI 2, sI B 918 352 (nI 3)) := by
    unfold f_X12_datagram_91
    rw [z_i352 H, qk_true, m_fty H, qc_some']
    rfl
  rw [if_neg (fun e => by have := z69.mp e; omega), if_pos (z79.mpr ho2.2), qv_eq, eT, p2, qc_some']
  have f3 : (¬ wd g 2 = m ∨ m < hdr g 0) → flt g m = 3 ∧ fpl g m = 2 := by
    intro e
    have ef : flt g m = 3 := by unfold flt; rw [if_neg c1, if_neg ho', if_pos e]
    exact ⟨ef, by unfold fpl; rw [ef]; rfl⟩
  by_cases c3 : wd g 2 = m
  rotate_left
  · rw [if_neg (fun e => c3 (zw.mp e))]
    exact bad (f3 (Or.inl c3)).1 (by decide) (f3 (Or.inl c3)).2 c91
  by_cases c4 : hdr g 0 ≤ m
  rotate_left
  · rw [if_pos (zw.mpr c3), if_neg (fun e => c4 (zh.mp e))]
    exact bad (f3 (Or.inr (by omega))).1 (by decide) (f3 (Or.inr (by omega))).2 c91
  have n3 : ¬ (¬ wd g 2 = m ∨ m < hdr g 0) := by omega
  have sm : f_X12_summed F B 352 0 (nI (hdr g 0)) 0 = some (nI (fd (fd (0 + rsm g (hdr g 0) 0))), B) := m_sum (F := F) (k := 0) (A := 0) H G hF (by omega) (by omega) (by omega)
  rw [Nat.zero_add] at sm
  have fl : fd (fd (rsm g (hdr g 0) 0)) < 2 ^ 31 := by
    have := rsm_le g (hdr g 0) 0
    unfold fd
    omega
  have zs : nI (fd (fd (rsm g (hdr g 0) 0))) = 65535 ↔ fd (fd (rsm g (hdr g 0) 0)) = 65535 := nI_eq (b := 65535) fl (by omega)
  rw [if_pos (zw.mpr c3), if_pos (zh.mpr c4), z_i352 H, qk_true, sm, qc_some']
  by_cases c5 : fd (fd (rsm g (hdr g 0) 0)) = 65535
  rotate_left
  · have ef : flt g m = 4 := by unfold flt; rw [if_neg c1, if_neg ho', if_neg n3, if_pos c5]
    rw [if_neg (fun e => c5 (zs.mp e)), z_i352 H, qk_true, m_fty H, qc_some']
    exact bad ef (by decide) (show fpl g m = 10 by unfold fpl; rw [ef]; rfl) rfl
  have b6 := bt_lt g 6
  have b7 := bt_lt g 7
  have bb6 := m_byte H G (by omega : 6 < 2100)
  have bb7 := m_byte H G (by omega : 7 < 2100)
  have bb9 := m_byte H G (by omega : 9 < 2100)
  have a6 : aI B 353 6 &&& 63 = nI (bt g 6 % 64) := by
    rw [← and_63, show aI B 353 6 &&& 255 = nI (bt g 6) from bb6.2.2]
    exact pk_andN (by omega) 6 (by decide)
  have a7 : aI B 353 7 = 0 ↔ bt g 7 = 0 := by
    rw [show aI B 353 7 = g 7 from bb7.2.1, b8_0 hb7, bt_eq]
    exact nI_eq (b := 0) (by omega) (by omega)
  have z6 : nI (bt g 6 % 64) = 0 ↔ bt g 6 % 64 = 0 := nI_eq (b := 0) (by omega) (by omega)
  have f5 : (¬ bt g 6 % 64 = 0 ∨ ¬ bt g 7 = 0) → flt g m = 5 ∧ fpl g m = 6 := by
    intro e
    have ef : flt g m = 5 := by unfold flt; rw [if_neg c1, if_neg ho', if_neg n3, if_neg (not_not_intro c5), if_pos e]
    exact ⟨ef, by unfold fpl; rw [ef]; rfl⟩
  have c142 : f_X12_datagram_142 F 352 B = some ((-1) - nI 6, sI B 918 352 (nI 5)) := by
    unfold f_X12_datagram_142
    rw [z_i352 H, qk_true, m_fty H, qc_some']
    rfl
  rw [if_pos (zs.mpr c5), z_i352 H, qk_true, z_p901_352 H, qP_some', z_i353 H, qk_true, show inb 6 (gL B 353) = true from bb6.1, qk_true, qv_eq, a6]
  by_cases c6 : bt g 6 % 64 = 0
  rotate_left
  · rw [if_neg (fun e => c6 (z6.mp e))]
    exact bad (f5 (Or.inl c6)).1 (by decide) (f5 (Or.inl c6)).2 c142
  rw [if_pos (z6.mpr c6), qP_some', z_i353 H, qk_true, show inb 7 (gL B 353) = true from bb7.1, qk_true, qv_eq]
  by_cases c7 : bt g 7 = 0
  rotate_left
  · rw [if_neg (fun e => c7 (a7.mp e))]
    exact bad (f5 (Or.inr c7)).1 (by decide) (f5 (Or.inr c7)).2 c142
  have n5 : ¬ (¬ bt g 6 % 64 = 0 ∨ ¬ bt g 7 = 0) := by omega
  rw [if_pos (a7.mpr c7), qP_some', z_i353 H, qk_true, show inb 9 (gL B 353) = true from bb9.1, qk_true, qv_eq, show aI B 353 9 &&& 255 = nI (bt g 9) from bb9.2.2, m_long H G hm c4, qc_some']
  rcases Bool.eq_false_or_eq_true (whl g m (hdr g 0)) with hw | hw
  rotate_left
  · have ef : flt g m = 6 := by unfold flt; rw [if_neg c1, if_neg ho', if_neg n3, if_neg (not_not_intro c5), if_neg n5, if_pos hw]
    rw [if_pos (show bI (whl g m (hdr g 0)) = 0 by rw [hw]; rfl), z_i352 H, qk_true, m_fty H, qc_some']
    exact bad ef (by decide) (show fpl g m = hdr g 0 by unfold fpl; rw [ef]; rfl) rfl
  have nw : ¬ whl g m (hdr g 0) = false := by rw [hw]; decide
  rw [if_neg (show ¬ bI (whl g m (hdr g 0)) = 0 by rw [hw]; decide)]
  obtain ⟨k1, k2⟩ := m_dgB (F := F) H G hF hm (by omega) c4 hw w0
  cases hs : smd g m (hdr g 0)
  · have ef : flt g m = 7 := by unfold flt; rw [if_neg c1, if_neg ho', if_neg n3, if_neg (not_not_intro c5), if_neg n5, if_neg nw, if_pos hs]
    exact bad ef (by decide) (show fpl g m = hdr g 0 + spl (bt g 9) by unfold fpl; rw [ef]; rfl) (k1 hs)
  · have ef : flt g m = 0 := by unfold flt; rw [if_neg c1, if_neg ho', if_neg n3, if_neg (not_not_intro c5), if_neg n5, if_neg nw, if_neg (by rw [hs]; decide)]
    exact ⟨fun e => absurd ef e, fun _ => ⟨k2 hs, by omega, c4, hw⟩⟩
end MDG3
