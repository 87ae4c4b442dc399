section MSIDE
variable {S : gk_S} {F i : Nat} {c p : Nat → Nat}
/-- row i of the model's table -/
def MRow (S : gk_S) (i : Nat) (c : Nat → Nat) : Prop := i < 64 ∧ ∀ j, j < 9 → xI S 369 (9 * i + j) = nI (c j)
theorem m_tel (h : Sh S) (m : MRow S i c) {j : Nat} (hj : j < 9) : inb (nI (9 * i + j)) (gL S 369) = true ∧ aI S 369 (nI (9 * i + j)) = nI (c j) := by
  have := m.1
  refine ⟨by rw [z_l369 h]; exact inb_n (by omega) (by omega), ?_⟩
  show xI S 369 (nI (9 * i + j)).toNatClampNeg = _
  rw [nI_clamp (by omega)]
  exact m.2 j hj
theorem n9j (i j : Nat) : nI (9 * i) + nI j = nI (9 * i + j) := nI_add _ _
theorem m_s183 (h : Sh S) (m : MRow S i c) (wc : WC c) (wp : WP p) (b : Bool) : f_X12_side_183 F 352 (nI (p 4)) (nI (p 5)) (nI (9 * i)) (bI b) S = some (nI (sideR false (b && decide (p 5 = c 3) && decide (p 4 = c 4))), S) := by
  obtain ⟨w0, w1, w2, w3, w4, w5, w6⟩ := wp
  obtain ⟨v0, v1, v2, v3, v4, v5⟩ := wc
  have t3 := m_tel h m (j := 3) (by omega)
  have t4 := m_tel h m (j := 4) (by omega)
  unfold f_X12_side_183
  cases b
  · rw [if_pos b_f]; rfl
  · rw [if_neg (by decide)]
    simp only [qk_true, qk_false, qv_eq, qP_some', qP_none, qc_some', qc_none, qx_inl', qx_inr', qh_inl', qh_inr', z_i352 h, z_p931_352 h, z_i369 h, show nI (9 * i) + 3 = nI (9 * i + 3) from n9j i 3, show nI (9 * i) + 4 = nI (9 * i + 4) from n9j i 4, t3.1, t3.2, t4.1, t4.2, n32_eq (by omega : c 3 < 4294967296) (by omega : p 5 < 4294967296), n32_eq (by omega : c 4 < 4294967296) (by omega : p 4 < 4294967296), Bool.true_and]
    by_cases a1 : p 5 = c 3
    · rw [if_pos a1.symm, decide_eq_true a1]
      by_cases a2 : p 4 = c 4
      · rw [if_pos a2.symm, decide_eq_true a2]; rfl
      · rw [if_neg (fun e => a2 e.symm), decide_eq_false a2]; rfl
    · rw [if_neg (fun e => a1 e.symm), decide_eq_false a1]; rfl
theorem m_s85 (h : Sh S) (m : MRow S i c) (wc : WC c) (wp : WP p) (f b : Bool) : f_X12_side_85 F 352 (nI (p 1)) (nI (p 4)) (nI (p 5)) (nI (9 * i)) (bI f) (bI b) S = some (nI (if p 1 = 1 then sideR (f && decide (p 4 / 256 = 8) && decide (p 5 = c 4)) (b && decide (p 4 / 256 = 0) && decide (p 5 = c 4)) else sideR (f && decide (p 4 = c 3) && decide (p 5 = c 4)) (b && decide (p 4 = c 4) && decide (p 5 = c 3))), S) := by
  have s183 := fun b => m_s183 (F := F) h m wc wp b
  obtain ⟨w0, w1, w2, w3, w4, w5, w6⟩ := wp
  obtain ⟨v0, v1, v2, v3, v4, v5⟩ := wc
  have t3 := m_tel h m (j := 3) (by omega)
  have t4 := m_tel h m (j := 4) (by omega)
  have ed : nI (p 4) / 256 = nI (p 4 / 256) := pk_div (d := 256) (by omega) (by omega) (by omega)
  simp only [f_X12_side_85, f_X12_side_132, qk_true, qk_false, qv_eq, qP_some', qP_none, qc_some', qc_none, qx_inl', qx_inr', qh_inl', qh_inr', z_i352 h, z_p931_352 h, z_i369 h, show nI (9 * i) + 3 = nI (9 * i + 3) from n9j i 3, show nI (9 * i) + 4 = nI (9 * i + 4) from n9j i 4, t3.1, t3.2, t4.1, t4.2, n32_eq (by omega : c 3 < 4294967296) (by omega : p 4 < 4294967296), n32_eq (by omega : c 4 < 4294967296) (by omega : p 5 < 4294967296), ed, show nI (p 1) = 1 ↔ p 1 = 1 from nI_eq (b := 1) (by omega) (by omega), show nI (p 4 / 256) = 8 ↔ p 4 / 256 = 8 from nI_eq (b := 8) (by omega) (by omega), show nI (p 4 / 256) = 0 ↔ p 4 / 256 = 0 from nI_eq (b := 0) (by omega) (by omega)]
  by_cases c1 : p 1 = 1
  · rw [if_pos c1, if_pos c1]
    by_cases a1 : c 4 = p 5
    · rw [if_pos a1, decide_eq_true a1.symm]
      by_cases a2 : p 4 / 256 = 8
      · have a3 : ¬ p 4 / 256 = 0 := by omega
        rw [if_pos a2, decide_eq_true a2, decide_eq_false a3, if_neg a3]
        cases f <;> cases b <;> rfl
      · rw [if_neg a2, decide_eq_false a2]
        by_cases a3 : p 4 / 256 = 0
        · rw [if_pos a3, decide_eq_true a3]
          cases f <;> cases b <;> rfl
        · rw [if_neg a3, decide_eq_false a3]
          cases f <;> cases b <;> rfl
    · rw [if_neg a1, decide_eq_false (show ¬ p 5 = c 4 from fun e => a1 e.symm)]
      simp only [Bool.and_false]
      rfl
  · rw [if_neg c1, if_neg c1]
    have fin : ∀ f', (f' = false) → f_X12_side_183 F 352 (nI (p 4)) (nI (p 5)) (nI (9 * i)) (bI b) S = some (nI (sideR f' (b && decide (p 4 = c 4) && decide (p 5 = c 3))), S) := by
      intro f' e
      rw [e, s183 b]
      congr 3
      cases b <;> cases decide (p 4 = c 4) <;> cases decide (p 5 = c 3) <;> rfl
    cases f
    · rw [if_pos b_f]; exact fin _ rfl
    · rw [if_neg (by decide)]
      by_cases a1 : c 3 = p 4
      · rw [if_pos a1, decide_eq_true a1.symm]
        by_cases a2 : c 4 = p 5
        · rw [if_pos a2, decide_eq_true a2.symm]
          rfl
        · rw [if_neg a2, decide_eq_false (fun e => a2 e.symm)]; exact fin _ rfl
      · rw [if_neg a1, decide_eq_false (fun e => a1 e.symm)]; exact fin _ rfl
theorem m_side (h : Sh S) (m : MRow S i c) (wc : WC c) (wp : WP p) : f_X12_side F S 352 (nI i) (nI (p 1)) (nI (p 2)) (nI (p 3)) (nI (p 4)) (nI (p 5)) = some (nI (sideN c p), S) := by
  have s85 := fun f b => m_s85 (F := F) h m wc wp f b
  obtain ⟨w0, w1, w2, w3, w4, w5, w6⟩ := wp
  obtain ⟨v0, v1, v2, v3, v4, v5⟩ := wc
  have t0 := m_tel h m (j := 0) (by omega)
  have t1 := m_tel h m (j := 1) (by omega)
  have t2 := m_tel h m (j := 2) (by omega)
  rw [Nat.add_zero] at t0
  have s51 : ∀ f, f_X12_side_51 F 352 (nI (p 1)) (nI (p 2)) (nI (p 3)) (nI (p 4)) (nI (p 5)) (nI (9 * i)) (bI f) S = f_X12_side_85 F 352 (nI (p 1)) (nI (p 4)) (nI (p 5)) (nI (9 * i)) (bI f) (bI (decide (p 2 = c 2) && decide (p 3 = c 1))) S := by
    intro f
    simp only [f_X12_side_51, qk_true, qk_false, qv_eq, qP_some', qP_none, qc_some', qc_none, qx_inl', qx_inr', qh_inl', qh_inr', z_i352 h, z_p931_352 h, z_i369 h, show nI (9 * i) + 1 = nI (9 * i + 1) from n9j i 1, show nI (9 * i) + 2 = nI (9 * i + 2) from n9j i 2, t1.1, t1.2, t2.1, t2.2, n32_eq (by omega : c 1 < 4294967296) (by omega : p 3 < 4294967296), n32_eq (by omega : c 2 < 4294967296) (by omega : p 2 < 4294967296)]
    by_cases a1 : c 1 = p 3
    · rw [if_pos a1, decide_eq_true (show p 3 = c 1 from a1.symm)]
      by_cases a2 : c 2 = p 2
      · rw [if_pos a2, decide_eq_true a2.symm]; rfl
      · rw [if_neg a2, decide_eq_false (fun e => a2 e.symm)]; rfl
    · rw [if_neg a1, decide_eq_false (show ¬ p 3 = c 1 from fun e => a1 e.symm), Bool.and_false]; rfl
  simp only [f_X12_side, qk_true, qk_false, qv_eq, qP_some', qP_none, qc_some', qc_none, qx_inl', qx_inr', qh_inl', qh_inr', z_i352 h, z_p931_352 h, z_i369 h, n9, show nI (9 * i) + 1 = nI (9 * i + 1) from n9j i 1, show nI (9 * i) + 2 = nI (9 * i + 2) from n9j i 2, t0.1, t0.2, t1.1, t1.2, t2.1, t2.2, n32_eq (by omega : c 0 < 4294967296) (by omega : p 1 < 4294967296), n32_eq (by omega : c 1 < 4294967296) (by omega : p 2 < 4294967296), n32_eq (by omega : c 2 < 4294967296) (by omega : p 3 < 4294967296), sideN]
  by_cases a0 : c 0 = p 1
  · have fin : ∀ f, f_X12_side_51 F 352 (nI (p 1)) (nI (p 2)) (nI (p 3)) (nI (p 4)) (nI (p 5)) (nI (9 * i)) (bI f) S = _ := fun f => (s51 f).trans (s85 f _)
    rw [if_pos a0, if_pos a0.symm, a0]
    by_cases a1 : c 1 = p 2
    · rw [if_pos a1, decide_eq_true a1.symm]
      by_cases a2 : c 2 = p 3
      · rw [if_pos a2, decide_eq_true a2.symm]; exact fin true
      · rw [if_neg a2, decide_eq_false (fun e => a2 e.symm)]; exact fin false
    · rw [if_neg a1, decide_eq_false (fun e => a1 e.symm)]; exact fin false
  · rw [if_neg a0, if_neg (fun e => a0 e.symm)]
    rfl
end MSIDE
/-! where a packet's connection stands -/
section PLACE
variable {S : gk_S} {F : Nat}
/-- the class's table: n connections C, their cells Q -/
def CT (S : gk_S) (Q : Nat → Nat) (C : Nat → Nat → Nat) (n : Nat) : Prop := n ≤ 64 ∧ gI S 601 279 = nI n ∧ (∀ i, i < 64 → xP S 280 i = some (Q i) ∧ 281 ≤ Q i ∧ Q i < 345) ∧ ∀ i, i < n → WC (C i) ∧ CC S (Q i) (C i)
def MTb (S : gk_S) (C : Nat → Nat → Nat) (n : Nat) : Prop := n ≤ 64 ∧ gI S 932 352 = nI n ∧ ∀ i, i < n → WC (C i) ∧ MRow S i (C i)
def plc (C : Nat → Nat → Nat) (p : Nat → Nat) (d k : Nat) : Nat := fi (fun i => decide (sideN (C i) p ≠ 0)) d k
theorem k_place2 (h : Sh S) {Q : Nat → Nat} {C : Nat → Nat → Nat} {n a : Nat} {p : Nat → Nat} (ct : CT S Q C n) (pk : PK S a p) : ∀ d k fu, k + d = n → d < fu → f_X8_placeOf_2 F fu 279 a (nI k) S = some (ix (plc C p d k) n, S) := by
  obtain ⟨t1, t2, t3, t4⟩ := ct
  intro d
  induction d with
  | zero =>
    intro k fu hk hfu
    obtain ⟨fu, rfl⟩ : ∃ q, fu = q + 1 := ⟨fu - 1, by omega⟩
    rw [f_X8_placeOf_2]
    simp only [qk_true, qk_false, qv_eq, qP_some', qP_none, qc_some', qc_none, qx_inl', qx_inr', qh_inl', qh_inr', z_i279 h, t2, show nI n ≤ nI k from nI_le (by omega) (by omega), if_true, plc, fi, ix, show ¬ k < n by omega, if_false]
  | succ d ih =>
    intro k fu hk hfu
    obtain ⟨fu, rfl⟩ : ∃ q, fu = q + 1 := ⟨fu - 1, by omega⟩
    have e3 := t3 k (by omega)
    have e4 := t4 k (by omega)
    have sl := sideN_le (C k) p
    rw [f_X8_placeOf_2]
    simp only [qk_true, qk_false, qv_eq, qP_some', qP_none, qc_some', qc_none, qx_inl', qx_inr', qh_inl', qh_inr', z_i279 h, t2, show ¬ nI n ≤ nI k from nI_ge (by omega) (by omega), if_false, show ¬ (64 : Int32) ≤ nI k from nI_ge (b := 64) (by omega) (by omega), z_p600_279 h, z_i280 h, z_l280 h, inb_n (by omega : k < 64) (by omega : 64 < 2 ^ 31), aP, nI_clamp (by omega : k < 2 ^ 31), e3.1, z_c h e3.2.1 e3.2.2, k_side h e3.2.1 e3.2.2 e4.2 e4.1 pk, nI_1, ih (k + 1) fu (by omega) (by omega), show nI (sideN (C k) p) = 0 ↔ sideN (C k) p = 0 from nI_eq (b := 0) (by omega) (by omega), plc, fi]
    by_cases q : sideN (C k) p = 0
    · simp only [if_pos q, decide_eq_false (not_not_intro q)]
      rfl
    · simp only [if_neg q, decide_eq_true q, if_true, ix, show k < n by omega]
theorem k_place (h : Sh S) (hF : 16400 ≤ F) {Q : Nat → Nat} {C : Nat → Nat → Nat} {n a : Nat} {p : Nat → Nat} (ct : CT S Q C n) (pk : PK S a p) : f_X8_placeOf F S 279 a = some (ix (plc C p n 0) n, S) := k_place2 h ct pk n 0 F (by omega) (by have := ct.1; omega)
theorem m_find3 (h : Sh S) {C : Nat → Nat → Nat} {n : Nat} {p : Nat → Nat} (mt : MTb S C n) (wp : WP p) : ∀ d k fu v, k + d = n → d < fu → f_X12_find_3 F fu 352 (nI (p 1)) (nI (p 2)) (nI (p 3)) (nI (p 4)) (nI (p 5)) (nI k) (sI S 938 352 v) = some (ix (plc C p d k) n, sI S 938 352 (if plc C p d k < n then nI (sideN (C (plc C p d k)) p) else 0)) := by
  obtain ⟨t1, t2, t3⟩ := mt
  intro d
  induction d with
  | zero =>
    intro k fu v hk hfu
    obtain ⟨fu, rfl⟩ : ∃ q, fu = q + 1 := ⟨fu - 1, by omega⟩
    have t2' : gI (sI S 938 352 v) 932 352 = nI n := t2
    rw [f_X12_find_3]
    simp only [qk_true, qk_false, qv_eq, qP_some', qP_none, qc_some', qc_none, qx_inl', qx_inr', qh_inl', qh_inr', isb_sI, z_i352 h, t2', show nI n ≤ nI k from nI_le (by omega) (by omega), if_true, plc, fi, ix, show ¬ k < n by omega, if_false, sI_sI]
  | succ d ih =>
    intro k fu v hk hfu
    obtain ⟨fu, rfl⟩ : ∃ q, fu = q + 1 := ⟨fu - 1, by omega⟩
    have t2' : gI (sI S 938 352 v) 932 352 = nI n := t2
    have e4 := t3 k (by omega)
    have sl := sideN_le (C k) p
    have g9 : gI (sI S 938 352 (nI (sideN (C k) p))) 938 352 = nI (sideN (C k) p) := rfl
    rw [f_X12_find_3]
    simp only [qk_true, qk_false, qv_eq, qP_some', qP_none, qc_some', qc_none, qx_inl', qx_inr', qh_inl', qh_inr', isb_sI, z_i352 h, t2', show ¬ nI n ≤ nI k from nI_ge (by omega) (by omega), if_false, m_side (S := sI S 938 352 v) (F := F) h e4.2 e4.1 wp, sI_sI, g9, nI_1, ih (k + 1) fu _ (by omega) (by omega), show nI (sideN (C k) p) ≤ 0 ↔ sideN (C k) p ≤ 0 from nI_leI (b := 0) (by omega) (by omega), plc, fi]
    by_cases q : sideN (C k) p = 0
    · simp only [if_pos (Nat.le_of_eq q), decide_eq_false (not_not_intro q)]
      rfl
    · simp only [if_neg (show ¬ sideN (C k) p ≤ 0 by omega), decide_eq_true q, if_true, ix, show k < n by omega]
theorem m_find (h : Sh S) (hF : 16400 ≤ F) {C : Nat → Nat → Nat} {n : Nat} {p : Nat → Nat} (mt : MTb S C n) (wp : WP p) : f_X12_find F S 352 (nI (p 1)) (nI (p 2)) (nI (p 3)) (nI (p 4)) (nI (p 5)) = some (ix (plc C p n 0) n, sI S 938 352 (if plc C p n 0 < n then nI (sideN (C (plc C p n 0)) p) else 0)) := by
  have := m_find3 (F := F) h mt wp n 0 F (gI S 938 352) (by omega) (by have := mt.1; omega)
  rw [sI_id S 938 352 rfl] at this
  exact this
end PLACE
