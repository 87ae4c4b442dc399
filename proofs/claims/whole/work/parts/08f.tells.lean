def dfl (g : Nat → Int32) : Nat := if bt g 9 = 6 then bt g (hdr g 0 + 13) % 64 else 0
def rpt (t : Nat) : Bool := decide (t = 3 ∨ t = 4 ∨ t = 5 ∨ t = 11 ∨ t = 12)
def tls (g : Nat → Int32) (m : Nat) : Bool := decide (bt g 9 = 1) && rpt (bt g (hdr g 0)) && decide (28 ≤ m - (hdr g 0 + 8)) && okf (bt g (hdr g 0 + 8)) && decide (hdr g (hdr g 0 + 8) + 8 ≤ m - (hdr g 0 + 8))
section TEL
variable {S : gk_S} {F m : Nat} {g : Nat → Int32}
theorem whl_8 (hw : whl g m (hdr g 0) = true) (hb : hsb (bt g 9) = true) (hl : hdr g 0 ≤ m) : hdr g 0 + 8 ≤ m ∧ (bt g 9 = 6 → hdr g 0 + 20 ≤ m) := by
  unfold hsb at hb
  have hb := of_decide_eq_true hb
  unfold whl at hw
  by_cases c1 : bt g 9 = 1
  · rw [if_pos c1] at hw
    have := of_decide_eq_true hw
    omega
  rw [if_neg c1] at hw
  by_cases c6 : bt g 9 = 6
  · rw [if_pos c6] at hw
    have := of_decide_eq_true hw
    omega
  rw [if_neg c6, if_pos (by omega)] at hw
  have := of_decide_eq_true hw
  omega
theorem k_flags (h : CO S 1 g m) (h20 : 20 ≤ m) (hm : m ≤ 2100) (h6 : bt g 9 = 6 → hdr g 0 + 20 ≤ m) : f_X10_flagsOf F S 1 = some (nI (dfl g), S) := by
  have b9 := bt_lt g 9
  have hl := hdr_lt g 0
  have a9 : f_X2_at F S 1 9 = some (nI (bt g 9), S) := h.1 F 9 (by omega)
  have a0 : f_X2_at F S 1 0 = some (nI (bt g 0), S) := h.1 F 0 (by omega)
  have z6 : nI (bt g 9) = 6 ↔ bt g 9 = 6 := nI_eq (b := 6) (by omega) (by omega)
  unfold f_X10_flagsOf dfl
  rw [h.2.2.1, qk_true, a9, qc_some']
  by_cases c : bt g 9 = 6
  · have b13 := bt_lt g (hdr g 0 + 13)
    have := h6 c
    rw [if_pos (z6.mpr c), if_pos c, h.2.2.1, qk_true, a0, qc_some', k_hdr0 g 0, qc_some', h.2.2.1, qk_true, show nI (hdr g 0) + 13 = nI (hdr g 0 + 13) from nI_add _ 13, h.1 F _ (by omega), qc_some', show nI (bt g (hdr g 0 + 13)) &&& 63 = nI (bt g (hdr g 0 + 13) % 64) from pk_andN (by omega) 6 (by decide)]
  · rw [if_neg (fun e => c (z6.mp e)), if_neg c]; rfl
theorem k_rpt {t : Nat} (ht : t < 256) : f_X10_isReport F S (nI t) = some (bI (rpt t), S) := by
  have z3 : nI t = 3 ↔ t = 3 := nI_eq (b := 3) (by omega) (by omega)
  have z4 : nI t = 4 ↔ t = 4 := nI_eq (b := 4) (by omega) (by omega)
  have z5 : nI t = 5 ↔ t = 5 := nI_eq (b := 5) (by omega) (by omega)
  have z11 : nI t = 11 ↔ t = 11 := nI_eq (b := 11) (by omega) (by omega)
  have z12 : nI t = 12 ↔ t = 12 := nI_eq (b := 12) (by omega) (by omega)
  unfold f_X10_isReport rpt
  by_cases c3 : t = 3
  · rw [if_pos (z3.mpr c3), decide_eq_true (by omega)]; rfl
  rw [if_neg (fun e => c3 (z3.mp e))]
  by_cases c4 : t = 4
  · rw [if_pos (z4.mpr c4), decide_eq_true (by omega)]; rfl
  rw [if_neg (fun e => c4 (z4.mp e))]
  by_cases c5 : t = 5
  · rw [if_pos (z5.mpr c5), decide_eq_true (by omega)]; rfl
  rw [if_neg (fun e => c5 (z5.mp e))]
  by_cases c11 : t = 11
  · rw [if_pos (z11.mpr c11), decide_eq_true (by omega)]; rfl
  rw [if_neg (fun e => c11 (z11.mp e))]
  by_cases c12 : t = 12
  · rw [if_pos (z12.mpr c12), decide_eq_true (by omega)]; rfl
  · rw [if_neg (fun e => c12 (z12.mp e)), decide_eq_false (by omega)]; rfl
theorem tls_f {g : Nat → Int32} {m : Nat} (h : ¬ (bt g 9 = 1 ∧ rpt (bt g (hdr g 0)) = true ∧ 28 ≤ m - (hdr g 0 + 8) ∧ okf (bt g (hdr g 0 + 8)) = true ∧ hdr g (hdr g 0 + 8) + 8 ≤ m - (hdr g 0 + 8))) : tls g m = false := by
  cases e : tls g m
  · rfl
  · exfalso
    unfold tls at e
    simp only [Bool.and_eq_true, decide_eq_true_eq] at e
    exact h ⟨e.1.1.1.1, e.1.1.1.2, e.1.1.2, e.1.2, e.2⟩
theorem tls_t {g : Nat → Int32} {m : Nat} (h : bt g 9 = 1 ∧ rpt (bt g (hdr g 0)) = true ∧ 28 ≤ m - (hdr g 0 + 8) ∧ okf (bt g (hdr g 0 + 8)) = true ∧ hdr g (hdr g 0 + 8) + 8 ≤ m - (hdr g 0 + 8)) : tls g m = true := by
  unfold tls
  simp only [Bool.and_eq_true, decide_eq_true_eq]
  exact ⟨⟨⟨⟨h.1, h.2.1⟩, h.2.2.1⟩, h.2.2.2.1⟩, h.2.2.2.2⟩
theorem k_tells (h : TG S g m) (h20 : 20 ≤ m) (h8 : bt g 9 = 1 → hdr g 0 + 8 ≤ m) : ∃ S', f_X10_tellsOf F S 1 347 = some (bI (tls g m), S') ∧ ((tls g m = false ∧ S' = S) ∨ (tls g m = true ∧ ∃ r, S' = sI (rJ S 348 r) 201 347 0 ∧ ∀ f, f < 6 → r f = lN (pg g (hdr g 0 + 8) f))) := by
  have c := TG_CO h
  have hm := h.2.2.2
  have b9 := bt_lt g 9
  have hl := hdr_lt g 0
  have a9 : f_X2_at F S 1 9 = some (nI (bt g 9), S) := c.1 F 9 (by omega)
  have a0 : f_X2_at F S 1 0 = some (nI (bt g 0), S) := c.1 F 0 (by omega)
  have z1 : nI (bt g 9) = 1 ↔ bt g 9 = 1 := nI_eq (b := 1) (by omega) (by omega)
  have off : ∀ h9 : ¬ (bt g 9 = 1 ∧ rpt (bt g (hdr g 0)) = true ∧ 28 ≤ m - (hdr g 0 + 8) ∧ okf (bt g (hdr g 0 + 8)) = true ∧ hdr g (hdr g 0 + 8) + 8 ≤ m - (hdr g 0 + 8)), ∃ S', (some ((0 : Int32), S) : Option (Int32 × gk_S)) = some (bI (tls g m), S') ∧ ((tls g m = false ∧ S' = S) ∨ (tls g m = true ∧ ∃ r, S' = sI (rJ S 348 r) 201 347 0 ∧ ∀ f, f < 6 → r f = lN (pg g (hdr g 0 + 8) f))) := fun h9 => ⟨S, by rw [tls_f h9]; rfl, Or.inl ⟨tls_f h9, rfl⟩⟩
  unfold f_X10_tellsOf
  rw [c.2.2.1, qk_true, a0, qc_some', k_hdr0 g 0, qc_some', c.2.2.1, qk_true, a9, qc_some']
  by_cases c1 : bt g 9 = 1
  · have t8 := h8 c1
    rw [if_pos (z1.mpr c1), c.2.2.1, qk_true, c.1 F (hdr g 0) (by omega), qc_some', k_rpt (bt_lt g _), qc_some']
    cases hr : rpt (bt g (hdr g 0))
    · rw [if_pos (show bI false = 0 from rfl)]
      exact off (fun e => by rw [hr] at e; exact absurd e.2.1 (by decide))
    rw [if_neg (show ¬ bI true = 0 by decide), c.2.2.1, qk_true, qv_eq, c.2.2.2.1, show nI (hdr g 0) + 8 = nI (hdr g 0 + 8) from nI_add _ 8, pk_sub t8]
    have z28 : nI (m - (hdr g 0 + 8)) < 28 ↔ m - (hdr g 0 + 8) < 28 := nI_ltI (b := 28) (by omega) (by omega)
    by_cases c2 : m - (hdr g 0 + 8) < 28
    · rw [if_pos (z28.mpr c2)]
      exact off (fun e => by omega)
    rw [if_neg (fun e => c2 (z28.mp e)), c.1 F (hdr g 0 + 8) (by omega), qc_some', k_isF (bt_lt g _), qc_some']
    cases ho : okf (bt g (hdr g 0 + 8))
    · rw [if_pos (show bI false = 0 from rfl)]
      exact off (fun e => by rw [ho] at e; exact absurd e.2.2.2.1 (by decide))
    have hl2 := hdr_lt g (hdr g 0 + 8)
    rw [if_neg (show ¬ bI true = 0 by decide), c.2.2.1, qk_true, c.1 F (hdr g 0 + 8) (by omega), qc_some', k_hdr0 g (hdr g 0 + 8), qc_some', show nI (hdr g (hdr g 0 + 8)) + 8 = nI (hdr g (hdr g 0 + 8) + 8) from nI_add _ 8]
    by_cases c3 : hdr g (hdr g 0 + 8) + 8 ≤ m - (hdr g 0 + 8)
    · obtain ⟨r, k1, k2⟩ := k_readp (F := F) (a := 347) h ⟨z_i347 h.1, z_p200_347 h.1, z_i348 h.1, z_l348 h.1⟩ (q := hdr g 0 + 8) (by omega) (fun _ => by unfold pgt; omega)
      rw [if_pos (nI_le c3 (by omega)), k1, qc_some']
      have tt := tls_t (m := m) (g := g) ⟨c1, hr, by omega, ho, c3⟩
      exact ⟨_, by rw [tt]; rfl, Or.inr ⟨tt, r, rfl, k2⟩⟩
    · rw [if_neg (nI_ge (by omega) (by omega))]
      exact off (fun e => c3 e.2.2.2.2)
  · rw [if_neg (fun e => c1 (z1.mp e))]
    exact off (fun e => c1 e.1)
end TEL
/-! the model's -/
section MDG
variable {S : gk_S} {F m : Nat} {g : Nat → Int32}
theorem m_long (h : Sh S) (hg : xI S 353 = g) (hm : m ≤ 2100) {T : Nat} (hT : T ≤ m) : f_X12_isLong F S 352 (nI (bt g 9)) (nI T) (nI m) = some (bI (whl g m T), S) := by
  have b9 := bt_lt g 9
  have z1 : nI (bt g 9) = 1 ↔ bt g 9 = 1 := nI_eq (b := 1) (by omega) (by omega)
  have z6 : nI (bt g 9) = 6 ↔ bt g 9 = 6 := nI_eq (b := 6) (by omega) (by omega)
  have z17 : nI (bt g 9) = 17 ↔ bt g 9 = 17 := nI_eq (b := 17) (by omega) (by omega)
  have z8 : nI (m - T) < 8 ↔ m - T < 8 := nI_ltI (b := 8) (by omega) (by omega)
  have z20 : (20 : Int32) ≤ nI (m - T) ↔ 20 ≤ m - T := nI_leI (a := 20) (by omega) (by omega)
  unfold f_X12_isLong whl
  rw [pk_sub hT]
  by_cases c6 : bt g 9 = 6
  · rw [if_pos (z6.mpr c6), if_neg (show ¬ bt g 9 = 1 by omega), if_pos c6]
    by_cases q : 20 ≤ m - T
    · have by12 := m_byte h hg (by omega : T + 12 < 2100)
      have b12 := bt_lt g (T + 12)
      have ed : nI (bt g (T + 12)) / 16 = nI (bt g (T + 12) / 16) := pk_div (d := 16) (by omega) (by omega) (by omega)
      have em : 4 * nI (bt g (T + 12) / 16) = nI (4 * (bt g (T + 12) / 16)) := pk_mul 4 _
      have z5 : nI (bt g (T + 12) / 16) < 5 ↔ bt g (T + 12) / 16 < 5 := nI_ltI (b := 5) (by omega) (by omega)
      have zl : nI (m - T) < nI (4 * (bt g (T + 12) / 16)) ↔ m - T < 4 * (bt g (T + 12) / 16) := nI_ltI (by omega) (by omega)
      rw [if_pos (z20.mpr q), z_i352 h, qk_true, z_p901_352 h, qP_some', z_i353 h, qk_true, show nI T + 12 = nI (T + 12) from nI_add T 12, by12.1, qk_true, qv_eq, by12.2.2, ed, em]
      by_cases q5 : bt g (T + 12) / 16 < 5
      · rw [if_pos (z5.mpr q5), decide_eq_false (by omega)]; rfl
      · rw [if_neg (fun e => q5 (z5.mp e))]
        by_cases q6 : m - T < 4 * (bt g (T + 12) / 16)
        · rw [if_pos (zl.mpr q6), decide_eq_false (by omega)]; rfl
        · rw [if_neg (fun e => q6 (zl.mp e)), decide_eq_true (by omega)]; rfl
    · rw [if_neg (fun e => q (z20.mp e)), decide_eq_false (by omega)]; rfl
  rw [if_neg (fun e => c6 (z6.mp e))]
  by_cases c17 : bt g 9 = 17
  · rw [if_pos (z17.mpr c17), if_neg (show ¬ bt g 9 = 1 by omega), if_neg c6, if_pos c17]
    by_cases q : m - T < 8
    · rw [if_pos (z8.mpr q), decide_eq_false (by omega)]; rfl
    · have w4 := wd_lt g (T + 4)
      have zw : nI (wd g (T + 4)) = nI (m - T) ↔ wd g (T + 4) = m - T := nI_eq (by omega) (by omega)
      rw [if_neg (fun e => q (z8.mp e)), z_i352 h, qk_true, show nI T + 4 = nI (T + 4) from nI_add T 4, m_two h hg (by omega), qc_some']
      by_cases q2 : wd g (T + 4) = m - T
      · rw [if_pos (zw.mpr q2), decide_eq_true (by omega)]; rfl
      · rw [if_neg (fun e => q2 (zw.mp e)), decide_eq_false (by omega)]; rfl
  rw [if_neg (fun e => c17 (z17.mp e))]
  by_cases c1 : bt g 9 = 1
  · rw [if_pos (z1.mpr c1), if_pos c1]
    by_cases q : m - T < 8
    · rw [if_pos (z8.mpr q), decide_eq_false (by omega)]; rfl
    · rw [if_neg (fun e => q (z8.mp e)), decide_eq_true (by omega)]; rfl
  · rw [if_neg (fun e => c1 (z1.mp e)), if_neg c1, if_neg c6, if_neg c17]; rfl
end MDG
