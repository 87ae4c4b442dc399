section MST2
variable {S : gk_S} {F : Nat}
theorem m_steps (h : Sh S) {i tm sd : Nat} (hi : i < 64) {c p : Nat → Nat} {T : Nat → Int32} (hT : ∀ j, j < 9 → T (9 * i + j) = nI (c j)) (g4 : gI S 934 352 = nI tm) (wc : WC c) (h1 : 1 ≤ sd) (h2 : sd ≤ 2) (hb : c 0 = 6 → bhc c p sd ≠ 0) : ∃ T', f_X12_steps F (rI S 369 T) 352 (nI i) (nI sd) (nI (if c 0 = 6 then mph (c 5) sd (c 7) (sgn (p 6)) else 0)) (ltr (sgn (p 6))) = some ((), rI S 369 T') ∧ Row T' T i (stp c p sd tm) := by
  have sg6 := sgn_lt (p 6)
  obtain ⟨w0, w1, w2, w3, w4, w6, w7, w8, w9, w10⟩ := wc
  have r0 : Row T T i c := ⟨hT, fun _ _ => rfl⟩
  have H := Sh_rI h 369 T
  generalize hto : (if c 0 = 6 then mph (c 5) sd (c 7) (sgn (p 6)) else 0) = to
  generalize hsg : sgn (p 6) = sg at *
  have bdef : bhc c p sd = bh (c 5) sd (c 7) sg := by unfold bhc; rw [hsg]
  have tol : to < 9 := by
    rw [← hto]
    by_cases e : c 0 = 6
    · rw [if_pos e]
      exact (ph_tab (c 5) (by have := w10 e; omega) sd (by omega) (c 7) (by omega) sg sg6 ⟨(w10 e).1, h1, fun q => by have := (w10 e).2.2.2.1 q; omega⟩).2
    · rw [if_neg e]; omega
  simp only [f_X12_steps, show nI to = 8 ↔ to = 8 from nI_eq (b := 8) (by omega) (by omega), show nI sd = 2 ↔ sd = 2 from nI_eq (b := 2) (by omega) (by omega), n9, qk_true, qk_false, qv_eq, qP_some', qP_none, qc_some', qc_none, qx_inl', qx_inr', qh_inl', qh_inr', z_i352 H, z_p931_352 H, z_i369 H, show nI (9 * i) + 5 = nI (9 * i + 5) from n9j i 5, show nI (9 * i) + 6 = nI (9 * i + 6) from n9j i 6, show nI (9 * i) + 7 = nI (9 * i + 7) from n9j i 7, rw_in H hi (show 5 < 9 by omega), rw_in H hi (show 6 < 9 by omega), rw_in H hi (show 7 < 9 by omega), wI_rI S 369 _ (by omega : 9 * i + 5 < 2 ^ 31), wI_rI S 369 _ (by omega : 9 * i + 6 < 2 ^ 31), wI_rI S 369 _ (by omega : 9 * i + 7 < 2 ^ 31)]
  by_cases t8 : to = 8
  · rw [if_pos t8]
    have e0 : c 0 = 6 := by
      by_cases e : c 0 = 6
      · exact e
      · rw [if_neg e] at hto; omega
    have e8 : mph (c 5) sd (c 7) sg = 8 := by rw [if_pos e0] at hto; omega
    have b1 : bhc c p sd = 1 := by
      rw [bdef]
      exact (ph_tab2 (c 5) (by have := w10 e0; omega) sd (by omega) (c 7) (by omega) sg sg6 ⟨(w10 e0).1, h1, fun q => by have := (w10 e0).2.2.2.1 q; omega⟩).1 e8
    have R := Row_upd (Row_upd (Row_upd r0 (j := 5) (v := 1) (by omega)) (j := 6) (v := 0) (by omega)) (j := 7) (v := 0) (by omega)
    have H1 := fun T => Sh_rI h 369 T
    obtain ⟨T', k1, k2⟩ := m_s121 (F := F) h hi (tm := tm) R g4 (by
      show (if 0 = 7 then 0 else if 0 = 6 then 0 else if 0 = 5 then 1 else c 0) < 256
      rw [if_neg (by decide), if_neg (by decide), if_neg (by decide)]; exact w0) (fun _ => by
      show 1 ≤ (if 5 = 7 then 0 else if 5 = 6 then 0 else if 5 = 5 then 1 else c 5) ∧ (if 5 = 7 then 0 else if 5 = 6 then 0 else if 5 = 5 then 1 else c 5) ≤ 7
      rw [if_neg (by decide), if_neg (by decide), if_pos rfl]; omega) (by
      show (if 6 = 7 then 0 else if 6 = 6 then 0 else if 6 = 5 then 1 else c 6) < 2
      rw [if_neg (by decide), if_pos rfl]; omega)
    refine ⟨T', ?_, Row_c k2 fun j hj => ?_⟩
    · simp only [z_p931_352 (H1 _), z_i369 (H1 _), rw_in (H1 _) hi (show 6 < 9 by omega), rw_in (H1 _) hi (show 7 < 9 by omega), qk_true, qk_false, qv_eq, qP_some', qP_none, qc_some', qc_none, qx_inl', qx_inr', qh_inl', qh_inr', wI_rI S 369 _ (by omega : 9 * i + 6 < 2 ^ 31), wI_rI S 369 _ (by omega : 9 * i + 7 < 2 ^ 31)]
      exact k1
    · show (if j = 8 then tm + lf (if 0 = 7 then 0 else if 0 = 6 then 0 else if 0 = 5 then 1 else c 0) (if 5 = 7 then 0 else if 5 = 6 then 0 else if 5 = 5 then 1 else c 5) (if 6 = 7 then 0 else if 6 = 6 then 0 else if 6 = 5 then 1 else c 6) else if j = 7 then 0 else if j = 6 then 0 else if j = 5 then 1 else c j) = _
      unfold stp s5 s6 s7
      simp only [e0, b1, if_true, true_and, and_self, show ¬ (0 : Nat) = 7 by decide, show ¬ (0 : Nat) = 6 by decide, show ¬ (0 : Nat) = 5 by decide, show ¬ (5 : Nat) = 7 by decide, show ¬ (5 : Nat) = 6 by decide, show ¬ (6 : Nat) = 7 by decide, if_false]
      by_cases j8 : j = 8
      · subst j8; rfl
      · by_cases j7 : j = 7
        · subst j7; rfl
        · by_cases j6 : j = 6
          · subst j6; rfl
          · by_cases j5 : j = 5
            · subst j5; rfl
            · simp only [j5, j6, j7, j8, if_false]
  · rw [if_neg t8]
    have tb : c 0 = 6 → to = bhc c p sd ∧ 1 ≤ to ∧ to ≤ 7 := by
      intro e
      have t2 := ph_tab2 (c 5) (by have := w10 e; omega) sd (by omega) (c 7) (by omega) sg sg6 ⟨(w10 e).1, h1, fun q => by have := (w10 e).2.2.2.1 q; omega⟩
      rw [if_pos e] at hto
      have := t2.2.2 (by omega)
      have b0 := hb e
      have bl : bhc c p sd < 8 := bhT_lt _
      rw [bdef] at b0 bl ⊢
      omega
    have tn : c 0 ≠ 6 → to = 0 := fun e => by rw [if_neg e] at hto; omega
    have fin : ∀ (T2 : Nat → Int32) (v6 : Nat), Row T2 T i (fun m => if m = 6 then v6 else c m) → v6 = (if sd = 2 then 1 else c 6) → ∃ T', f_X12_steps_63 F 352 (nI sd) (nI to) (ltr sg) (nI (9 * i)) (rI S 369 T2) = some ((), rI S 369 T') ∧ Row T' T i (stp c p sd tm) := by
      intro T2 v6 R hv
      have v2 : v6 < 2 := by rw [hv]; split <;> omega
      obtain ⟨T', k1, k2⟩ := m_s63 (F := F) (sd := sd) (to := to) (sg := sg) h hi (tm := tm) R g4 (by
        show (if 0 = 6 then v6 else c 0) < 256
        rw [if_neg (by decide)]; exact w0) (fun e => by
        have e : (if 0 = 6 then v6 else c 0) = 6 := e
        rw [if_neg (by decide)] at e
        exact (tb e).2) (by
        show (if 6 = 6 then v6 else c 6) < 2
        rw [if_pos rfl]; exact v2) (by
        show (if 7 = 6 then v6 else c 7) < 3
        rw [if_neg (by decide)]; exact w7) sg6 tol
      refine ⟨T', k1, Row_c k2 fun j hj => ?_⟩
      simp only [show ¬ (0 : Nat) = 6 by decide, show ¬ (5 : Nat) = 6 by decide, show ¬ (7 : Nat) = 6 by decide, if_false, if_true]
      unfold stp
      have x5 : (if c 0 = 6 then to else c 5) = s5 c p sd := by
        unfold s5
        by_cases e : c 0 = 6
        · rw [if_pos e, if_pos e]; exact (tb e).1
        · rw [if_neg e, if_neg e]; exact (w9 e).1
      have x6 : v6 = s6 c p sd := by
        unfold s6
        rw [hv]
        by_cases e : c 0 = 6 ∧ bhc c p sd = 1
        · rw [if_pos e]
          have t2 := ph_tab2 (c 5) (by have := w10 e.1; omega) sd (by omega) (c 7) (by omega) sg sg6 ⟨(w10 e.1).1, h1, fun q => by have := (w10 e.1).2.2.2.1 q; omega⟩
          have t3 := ph_tab3 (c 5) (by have := w10 e.1; omega) sd (by omega) (c 7) (by omega) sg sg6 ⟨(w10 e.1).1, h1, fun q => by have := (w10 e.1).2.2.2.1 q; omega⟩
          rw [← bdef] at t2 t3
          have s1 := t3.2.2.2 e.2
          have m8 := t2.2.1 e.2
          rw [if_pos e.1] at hto
          have p1 : c 5 = 1 := by omega
          rw [if_neg (by omega)]
          exact (w10 e.1).2.2.2.2 p1
        · rw [if_neg e]
      have x7 : (if c 0 = 6 ∧ sg = 3 ∧ c 7 = 0 ∧ to = 4 then sd else c 7) = s7 c p sd := by
        unfold s7
        by_cases e0 : c 0 = 6
        · have t2 := ph_tab2 (c 5) (by have := w10 e0; omega) sd (by omega) (c 7) (by omega) sg sg6 ⟨(w10 e0).1, h1, fun q => by have := (w10 e0).2.2.2.1 q; omega⟩
          have t3 := ph_tab3 (c 5) (by have := w10 e0; omega) sd (by omega) (c 7) (by omega) sg sg6 ⟨(w10 e0).1, h1, fun q => by have := (w10 e0).2.2.2.1 q; omega⟩
          rw [← bdef] at t2 t3
          have tb0 := (tb e0).1
          have ww := w10 e0
          rw [if_pos e0] at hto
          by_cases b1 : bhc c p sd = 1
          · rw [if_pos (⟨e0, b1⟩ : c 0 = 6 ∧ bhc c p sd = 1), if_neg (show ¬ (c 0 = 6 ∧ sg = 3 ∧ c 7 = 0 ∧ to = 4) by omega)]
            have m8 := t2.2.1 b1
            exact ww.2.2.1 (by omega)
          · rw [if_neg (show ¬ (c 0 = 6 ∧ bhc c p sd = 1) from fun q => b1 q.2)]
            by_cases b4 : bhc c p sd = 4 ∧ c 5 ≠ 4
            · have q3 := t3.1 b4.1 b4.2
              rw [if_pos (show c 0 = 6 ∧ bhc c p sd = 4 ∧ c 5 ≠ 4 from ⟨e0, b4⟩), if_pos (show c 0 = 6 ∧ sg = 3 ∧ c 7 = 0 ∧ to = 4 from ⟨e0, q3.1, ww.2.2.1 (by omega), by omega⟩)]
            · rw [if_neg (show ¬ (c 0 = 6 ∧ bhc c p sd = 4 ∧ c 5 ≠ 4) from fun q => b4 q.2), if_neg]
              intro q
              have p4 : c 5 = 4 := by omega
              have := ww.2.2.2.1 (Or.inl p4)
              omega
        · rw [if_neg (show ¬ (c 0 = 6 ∧ sg = 3 ∧ c 7 = 0 ∧ to = 4) from fun q => e0 q.1), if_neg (show ¬ (c 0 = 6 ∧ bhc c p sd = 1) from fun q => e0 q.1), if_neg (show ¬ (c 0 = 6 ∧ bhc c p sd = 4 ∧ c 5 ≠ 4) from fun q => e0 q.1)]
      rw [x5, x7, x6]
      by_cases j8 : j = 8
      · subst j8; rfl
      · by_cases j7 : j = 7
        · subst j7; rfl
        · by_cases j6 : j = 6
          · subst j6; rfl
          · by_cases j5 : j = 5
            · subst j5; rfl
            · simp only [j5, j6, j7, j8, if_false]
    by_cases s2 : sd = 2
    · rw [if_pos s2]
      exact fin _ 1 (Row_upd r0 (j := 6) (v := 1) (by omega)) (by rw [if_pos s2])
    · rw [if_neg s2]
      exact fin T (c 6) (Row_c r0 fun j hj => by
        show c j = if j = 6 then c 6 else c j
        by_cases e : j = 6
        · rw [if_pos e, e]
        · rw [if_neg e]) (by rw [if_neg s2])
end MST2
