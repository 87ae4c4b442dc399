section COMES2
variable {S : gk_S} {F : Nat}
theorem sideN_pr {c p : Nat → Nat} (h : 1 ≤ sideN c p) : p 1 = c 0 := by
  unfold sideN at h
  by_cases q : p 1 = c 0
  · exact q
  · rw [if_neg q] at h; omega
/-- the phase that the model sees behind -/
def jto (C : Nat → Nat → Nat) (p : Nat → Nat) (k n sd : Nat) : Nat := if k < n then (if C k 0 = 6 then mph (C k 5) sd (C k 7) (sgn (p 6)) else 0) else 0
def jsd (C : Nat → Nat → Nat) (p : Nat → Nat) (k n : Nat) : Nat := if k < n then sideN (C k) p else 0
theorem m_c151 (h : Sh S) {n k : Nat} {C : Nat → Nat → Nat} {p : Nat → Nat} (mt : MTb S C n) (wp : WP p) (hk : k < n → 1 ≤ sideN (C k) p) (rel : Bool) (hr : rel = true → k = n) : f_X12_comes_151 F 352 (nI (p 0)) (nI (p 1)) (nI (p 2)) (nI (p 3)) (nI (p 4)) (nI (p 5)) (nI (p 6)) (bI rel) (ix k n) (nI (jsd C p k n)) S = f_X12_comes_294 F 352 (nI (p 0)) (nI (p 1)) (nI (p 2)) (nI (p 3)) (nI (p 4)) (nI (p 5)) (nI (p 6)) (ix k n) (nI (jsd C p k n)) (nI (jto C p k n (jsd C p k n))) (nI (jst C p k n rel)) S := by
  obtain ⟨t1, t2, t3⟩ := mt
  obtain ⟨w0, w1, w2, w3, w4, w5, w6⟩ := wp
  have ed : nI (p 4) / 256 = nI (p 4 / 256) := pk_div (d := 256) (by omega) (by omega) (by omega)
  have p16 : nI (p 1) = 6 ↔ p 1 = 6 := nI_eq (b := 6) (by omega) (by omega)
  have p11 : nI (p 1) = 1 ↔ p 1 = 1 := nI_eq (b := 1) (by omega) (by omega)
  have p48 : nI (p 4 / 256) = 8 ↔ p 4 / 256 = 8 := nI_eq (b := 8) (by omega) (by omega)
  by_cases kn : k < n
  · have rf : rel = false := by
      cases rel
      · rfl
      · have := hr rfl; omega
    subst rf
    have sd1 := hk kn
    have pr := sideN_pr sd1
    have t3k := t3 k kn
    have sl := sideN_le (C k) p
    have sg6 := sgn_lt (p 6)
    have a6 := t3k.1.2.2.2.2.2.1
    have t6 := m_tel h t3k.2 (j := 6) (by omega)
    have x6 : nI (C k 6) = 1 ↔ C k 6 = 1 := nI_eq (b := 1) (by omega) (by omega)
    unfold jsd jto jst
    simp only [if_pos kn, Bool.false_eq_true, if_false]
    generalize hsd : sideN (C k) p = sd at *
    have xs : nI sd = 2 ↔ sd = 2 := nI_eq (b := 2) (by omega) (by omega)
    have c257 : ∀ to, to < 9 → f_X12_comes_257 F 352 (nI (p 0)) (nI (p 1)) (nI (p 2)) (nI (p 3)) (nI (p 4)) (nI (p 5)) (nI (p 6)) (nI k) (nI sd) (nI to) S = f_X12_comes_294 F 352 (nI (p 0)) (nI (p 1)) (nI (p 2)) (nI (p 3)) (nI (p 4)) (nI (p 5)) (nI (p 6)) (nI k) (nI sd) (nI to) (nI (if to = 8 then 0 else if C k 6 = 0 ∧ ¬ sd = 2 then 0 else 1)) S := by
      intro to hto
      simp only [f_X12_comes_257, show nI to = 8 ↔ to = 8 from nI_eq (b := 8) (by omega) (by omega), qk_true, qk_false, qv_eq, qP_some', qP_none, qc_some', qc_none, qx_inl', qx_inr', qh_inl', qh_inr', z_i352 h, z_p931_352 h, z_i369 h, n9, show nI (9 * k) + 6 = nI (9 * k + 6) from n9j k 6, t6.1, t6.2, x6, xs]
      by_cases e8 : to = 8
      · rw [if_pos e8, if_pos e8]; rfl
      rw [if_neg e8, if_neg e8]
      by_cases z : C k 6 = 1
      · rw [if_pos z, if_neg (show ¬ (C k 6 = 0 ∧ ¬ sd = 2) by omega)]; rfl
      rw [if_neg z]
      by_cases s2 : sd = 2
      · rw [if_pos s2, if_neg (show ¬ (C k 6 = 0 ∧ ¬ sd = 2) from fun e => e.2 s2)]; rfl
      · rw [if_neg s2, if_pos (show C k 6 = 0 ∧ ¬ sd = 2 by omega)]; rfl
    simp only [f_X12_comes_151, ix_in kn, show ¬ nI k < 0 from nI_pos (by omega), if_false, p16]
    by_cases c6 : p 1 = 6
    · have c0 : C k 0 = 6 := by omega
      have w10 := t3k.1.2.2.2.2.2.2.2.2.2 c0
      have w7 := t3k.1.2.2.2.2.2.2.1
      have pre : 1 ≤ C k 5 ∧ 1 ≤ sd ∧ (C k 5 = 4 ∨ C k 5 = 5 → 1 ≤ C k 7) := ⟨w10.1, sd1, fun q => by have := w10.2.2.2.1 q; omega⟩
      have tb1 := ph_tab (C k 5) (by omega) sd (by omega) (C k 7) (by omega) (sgn (p 6)) sg6 pre
      have tb2 := ph_tab2 (C k 5) (by omega) sd (by omega) (C k 7) (by omega) (sgn (p 6)) sg6 pre
      have tb3 := ph_tab3 (C k 5) (by omega) sd (by omega) (C k 7) (by omega) (sgn (p 6)) sg6 pre
      rw [if_pos c6, if_pos c0]
      simp only [m_letter (S := S) (F := F) (by omega : p 6 < 64), qk_true, qk_false, qv_eq, qP_some', qP_none, qc_some', qc_none, qx_inl', qx_inr', qh_inl', qh_inr', z_i352 h, m_phase h t3k.2 t3k.1 c0 sd1 (by omega) sg6]
      unfold est
      generalize hmp : mph (C k 5) sd (C k 7) (sgn (p 6)) = mp at *
      generalize hbb : bh (C k 5) sd (C k 7) (sgn (p 6)) = bb at *
      simp only [f_X12_comes_181, b_f, if_true, show (0 : Int32) ≤ nI k from nI_pos' (by omega), p16, show nI mp = 0 ↔ mp = 0 from nI_eq (b := 0) (by omega) (by omega), c0, true_and]
      rw [if_pos c6]
      have c2 := c257 mp tb1.2
      by_cases m0 : mp = 0
      · have : bb = 0 := by have := tb2.2.2 (by omega); omega
        rw [if_pos m0, if_pos this, m0]
        rfl
      · have b0 : ¬ bb = 0 := by
          intro e
          by_cases q : mp = 8
          · have := tb2.1 q; omega
          · have := tb2.2.2 q; omega
        rw [if_neg m0, if_neg b0, c2]
        congr 2
        by_cases b1 : bb = 1
        · rw [if_pos b1]
          rcases tb2.2.1 b1 with q | q
          · rw [if_pos q]
          · have z6 := w10.2.2.2.2 q.1
            have s1 := tb3.2.2.2 b1
            rw [if_neg (by omega), if_pos (show C k 6 = 0 ∧ ¬ sd = 2 by omega)]
        · rw [if_neg b1, if_neg (fun q => b1 (tb2.1 q))]
    · have c0 : ¬ C k 0 = 6 := by omega
      rw [if_neg c6, if_neg c0]
      simp only [f_X12_comes_181, b_f, if_true, show (0 : Int32) ≤ nI k from nI_pos' (by omega), p16, c6, if_false]
      have c2 := c257 0 (by omega)
      unfold est
      rw [if_neg (show ¬ (C k 0 = 6 ∧ bh (C k 5) sd (C k 7) (sgn (p 6)) = 0) from fun q => c0 q.1), if_neg (show ¬ (C k 0 = 6 ∧ bh (C k 5) sd (C k 7) (sgn (p 6)) = 1) from fun q => c0 q.1)]
      rw [if_neg (show ¬ (0 : Nat) = 8 by decide)] at c2
      exact c2
  · unfold jsd jto jst
    simp only [if_neg kn]
    simp only [f_X12_comes_151, ix_out kn, show (-1 : Int32) < 0 by decide, if_true, f_X12_comes_181, f_X12_comes_214, bI0, show ¬ (0 : Int32) ≤ -1 by decide, if_false, p16, p11, ed, p48]
    cases rel
    · simp only [if_true, Bool.false_eq_true, if_false]
      unfold nst
      by_cases c6 : p 1 = 6
      · rw [if_pos c6, if_pos c6]
        by_cases fl : nI (p 6) &&& 23 = 2
        · rw [if_pos fl, if_pos fl, if_neg (show ¬ p 1 = 1 by omega)]; rfl
        · rw [if_neg fl, if_neg fl]; rfl
      · rw [if_neg c6, if_neg c6]
        by_cases c1 : p 1 = 1
        · rw [if_pos c1, if_pos c1]
          by_cases e8 : p 4 / 256 = 8
          · rw [if_pos e8, if_pos e8]; rfl
          · rw [if_neg e8, if_neg e8]; rfl
        · rw [if_neg c1, if_neg c1]; rfl
    · simp only [Bool.true_eq_false, if_false, if_true]
      rfl
theorem m_c113 (h : Sh S) (hF : 16400 ≤ F) {n : Nat} {C : Nat → Nat → Nat} {p : Nat → Nat} (mt : MTb S C n) (wp : WP p) (rel : Bool) : ∃ v, f_X12_comes_113 F 352 (nI (p 0)) (nI (p 1)) (nI (p 2)) (nI (p 3)) (nI (p 4)) (nI (p 5)) (nI (p 6)) (bI rel) S = f_X12_comes_294 F 352 (nI (p 0)) (nI (p 1)) (nI (p 2)) (nI (p 3)) (nI (p 4)) (nI (p 5)) (nI (p 6)) (ix (jpl C n p rel) n) (nI (jsd C p (jpl C n p rel) n)) (nI (jto C p (jpl C n p rel) n (jsd C p (jpl C n p rel) n))) (nI (jst C p (jpl C n p rel) n rel)) (sI S 938 352 v) := by
  cases rel
  · have mf := m_find (F := F) h hF mt wp
    have ee : (if plc C p n 0 < n then nI (sideN (C (plc C p n 0)) p) else 0) = nI (jsd C p (plc C p n 0) n) := by
      unfold jsd
      by_cases q : plc C p n 0 < n
      · rw [if_pos q, if_pos q]
      · rw [if_neg q, if_neg q]; rfl
    rw [ee] at mf
    refine ⟨nI (jsd C p (plc C p n 0) n), ?_⟩
    have H : Sh (sI S 938 352 (nI (jsd C p (plc C p n 0) n))) := h
    have mt' : MTb (sI S 938 352 (nI (jsd C p (plc C p n 0) n))) C n := mt
    have g9 : gI (sI S 938 352 (nI (jsd C p (plc C p n 0) n))) 938 352 = nI (jsd C p (plc C p n 0) n) := rfl
    have c1 := m_c151 (F := F) H mt' wp (k := plc C p n 0) (fun q => plc_side q) false (fun e => by cases e)
    simp only [f_X12_comes_113, b_f, if_true, qk_true, qk_false, qv_eq, qP_some', qP_none, qc_some', qc_none, qx_inl', qx_inr', qh_inl', qh_inr', z_i352 h, mf, f_X12_comes_136, z_i352 H, g9]
    unfold jpl
    rw [if_neg (by decide)]
    exact c1
  · refine ⟨gI S 938 352, ?_⟩
    rw [sI_id S 938 352 rfl]
    have c1 := m_c151 (F := F) h mt wp (k := n) (fun q => absurd q (Nat.lt_irrefl n)) true (fun _ => rfl)
    simp only [f_X12_comes_113, b_t, one_ne, if_false, f_X12_comes_136]
    unfold jpl
    rw [if_pos rfl]
    have e1 : jsd C p n n = 0 := by unfold jsd; rw [if_neg (Nat.lt_irrefl n)]
    rw [ix_out (Nat.lt_irrefl n), e1] at c1
    rw [ix_out (Nat.lt_irrefl n), e1]
    exact c1
end COMES2
