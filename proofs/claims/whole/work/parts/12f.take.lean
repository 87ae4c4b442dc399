/-! the class reads a list -/
section CRD
variable {S T : gk_S} {F r m : Nat} {b : Nat → Nat} {A : AS} {t : Nat × Nat × Nat × Nat}
theorem k_take (hF : 16400 ≤ F) (hr : Ba r) (h : CB T r b m A) (hA : WA m A) (h0 : A.w ≠ 0) (c : CTk T t) (f : TF m t) : TO T r b m (f_X9_take F T 256 r) (tak t.1 t.2.1 (wk b t) t.2.2.2 A) := by
  have kq := kkL f
  have hc := h
  obtain ⟨c1, c2, c3, c4, c5, c6⟩ := hc
  have n16 := hA.2.2.1
  have a11 := hA.2.1
  have id1 : ∀ {f : Option (Int32 × gk_S)} {o : Nat ⊕ AS}, TO T r b m f o → TO T r b m (qc f fun x S => some (x, S)) o := by
    intro f o k
    obtain ⟨T', k1, k2, k3, k4⟩ := k
    refine ⟨T', k1, k2, k3, ?_⟩
    rcases k4 with ⟨κ, e1, e2, e3, e4⟩ | ⟨A', e1, e2, e3⟩
    · exact Or.inl ⟨κ, e1, e2, e3, by rw [e4, qc_some']⟩
    · exact Or.inr ⟨A', e1, by rw [e2, qc_some'], e3⟩
  have at16 : 5 ≤ A.w → f_X6_at F T r (nI A.L.n) = some (ru r A.L.n, T) := fun q => k_at c1.1 hr (hA.2.2.2.2.2.1 q).1
  have zz : ∀ {k : Nat}, k < 12 → (nI A.w = nI k ↔ A.w = k) := fun hk => nI_eq (by omega) (by omega)
  have hw : A.w = 1 ∨ A.w = 2 ∨ A.w = 3 ∨ A.w = 4 ∨ A.w = 5 ∨ A.w = 6 ∨ A.w = 7 ∨ A.w = 8 ∨ A.w = 9 ∨ A.w = 10 ∨ A.w = 11 := by omega
  unfold f_X9_take tak
  rw [z_i256 c1.1, qk_true, qv_eq, c2]
  rcases hw with e | e | e | e | e | e | e | e | e | e | e
  · simp only [e, show (nI 1 = 1) = True from eq_true rfl, if_false, if_true]
    rw [k_isw hF c1 c f (by omega) (by omega : 3 < 18) twrd.1, qc_some']
    by_cases q : wk b t = 3
    · rw [decide_eq_true q, if_neg (show ¬ bI true = 0 by decide), if_pos q, z_i256 c1.1, qk_true, k_go c1.1, qc_some']
      exact TO_go (x := 2) hr h n16 (fun q => by omega) (fun q => by omega) (fun q => by omega)
    · rw [decide_eq_false q, if_pos (show bI false = 0 from rfl), if_neg q, z_i256 c1.1, qk_true]
      exact id1 (k_takeRule hF hr h hA c f)
  · simp only [e, show ¬ nI 2 = 1 by decide, show ¬ 2 = 1 by decide, show (nI 2 = 2) = True from eq_true rfl, if_false, if_true]
    exact id1 (k_takePol hF hr h hA c f)
  · simp only [e, show ¬ nI 3 = 1 by decide, show ¬ nI 3 = 2 by decide, show ¬ 3 = 1 by decide, show ¬ 3 = 2 by decide, show (nI 3 = 3) = True from eq_true rfl, if_false, if_true]
    rw [qv_eq, c.1]
    by_cases q : t.1 = 4 ∧ t.2.1 = 59
    · rw [if_pos (kq.2.2.2.2.2.2.1.mpr q), if_pos q, k_go c1.1, qc_some']
      exact TO_go (x := 4) hr h n16 (fun q => by omega) (fun q => by omega) (fun q => by omega)
    · rw [if_neg (fun p => q (kq.2.2.2.2.2.2.1.mp p)), if_neg q]
      exact TO_f (κ := 2) (by omega) (by omega)
  · simp only [e, show ¬ nI 4 = 1 by decide, show ¬ nI 4 = 2 by decide, show ¬ nI 4 = 3 by decide, show ¬ 4 = 1 by decide, show ¬ 4 = 2 by decide, show ¬ 4 = 3 by decide, show (nI 4 = 4) = True from eq_true rfl, if_false, if_true]
    exact id1 (k_takeRule hF hr h hA c f)
  · simp only [e, show ¬ nI 5 = 1 by decide, show ¬ nI 5 = 2 by decide, show ¬ nI 5 = 3 by decide, show ¬ nI 5 = 4 by decide, show ¬ 5 = 1 by decide, show ¬ 5 = 2 by decide, show ¬ 5 = 3 by decide, show ¬ 5 = 4 by decide, show ¬ 5 = 6 by decide, show ¬ 5 = 7 by decide, show ¬ 5 = 8 by decide, show ¬ 5 = 9 by decide, show ¬ 5 = 10 by decide, show ¬ 5 = 11 by decide, show (nI 5 = 5) = True from eq_true rfl, if_false, if_true]
    exact id1 (k_takePart hF hr h hA (by omega) c f)
  · simp only [e, show ¬ nI 6 = 1 by decide, show ¬ nI 6 = 2 by decide, show ¬ nI 6 = 3 by decide, show ¬ nI 6 = 4 by decide, show ¬ nI 6 = 5 by decide, show ¬ 6 = 1 by decide, show ¬ 6 = 2 by decide, show ¬ 6 = 3 by decide, show ¬ 6 = 4 by decide, show (nI 6 = 6) = True from eq_true rfl, if_false, if_true]
    rw [z_r c1.1 hr, qk_true, qv_eq, c6.1, at16 (by omega), qc_some', z_i256 c1.1, qk_true]
    exact id1 (k_takeValue hF hr h hA e c f)
  · simp only [e, show ¬ nI 7 = 1 by decide, show ¬ nI 7 = 2 by decide, show ¬ nI 7 = 3 by decide, show ¬ nI 7 = 4 by decide, show ¬ nI 7 = 5 by decide, show ¬ nI 7 = 6 by decide, show ¬ 7 = 1 by decide, show ¬ 7 = 2 by decide, show ¬ 7 = 3 by decide, show ¬ 7 = 4 by decide, show ¬ 7 = 6 by decide, show (nI 7 = 7) = True from eq_true rfl, if_false, if_true]
    rw [qv_eq, c.1]
    have w7 := hA.2.2.2.2.2.1 (by omega : 5 ≤ A.w)
    by_cases q : t.1 = 4 ∧ t.2.1 = 45
    · rw [if_pos (kq.2.2.2.2.2.2.2.2.1.mpr q), if_pos q, k_go c1.1, qc_some']
      exact TO_go (x := 8) hr h n16 (fun q => ⟨by omega, w7.1⟩) (fun q => by omega) (fun q => by omega)
    · rw [if_neg (fun p => q (kq.2.2.2.2.2.2.2.2.1.mp p)), if_neg q, qv_eq]
      unfold f_X9_take_172
      by_cases q2 : t.1 = 4 ∧ t.2.1 = 47
      · rw [if_pos (kq.2.2.2.2.2.2.2.2.2.mpr q2), k_adp h (by omega) (by omega) (hA.2.2.2.2.2.2.1 (by omega) (by omega)), qc_some']
        by_cases q3 : A.t = 2 ∨ A.t = 3
        · rw [decide_eq_true q3, if_neg (show ¬ bI true = 0 by decide), if_pos ⟨q2.1, q2.2, q3⟩, z_i256 c1.1, qk_true, k_go c1.1, qc_some']
          exact TO_go (x := 9) hr h n16 (fun q => ⟨by omega, w7.1⟩) (fun q => by omega) (fun q => by omega)
        · rw [decide_eq_false q3, if_pos (show bI false = 0 from rfl), if_neg (fun p => q3 p.2.2), z_i256 c1.1, qk_true]
          exact id1 (k_takePart hF hr h hA (by omega) c f)
      · rw [if_neg (fun p => q2 (kq.2.2.2.2.2.2.2.2.2.mp p)), if_neg (fun p => q2 ⟨p.1, p.2.1⟩), z_i256 c1.1, qk_true]
        exact id1 (k_takePart hF hr h hA (by omega) c f)
  · simp only [e, show ¬ nI 8 = 1 by decide, show ¬ nI 8 = 2 by decide, show ¬ nI 8 = 3 by decide, show ¬ nI 8 = 4 by decide, show ¬ nI 8 = 5 by decide, show ¬ nI 8 = 6 by decide, show ¬ nI 8 = 7 by decide, show ¬ 8 = 1 by decide, show ¬ 8 = 2 by decide, show ¬ 8 = 3 by decide, show ¬ 8 = 4 by decide, show ¬ 8 = 6 by decide, show ¬ 8 = 7 by decide, show (nI 8 = 8) = True from eq_true rfl, if_false, if_true]
    rw [z_r c1.1 hr, qk_true, qv_eq, c6.1, at16 (by omega), qc_some', z_i256 c1.1, qk_true]
    exact id1 (k_takeLast hr h hA e c f)
  · simp only [e, show ¬ nI 9 = 1 by decide, show ¬ nI 9 = 2 by decide, show ¬ nI 9 = 3 by decide, show ¬ nI 9 = 4 by decide, show ¬ nI 9 = 5 by decide, show ¬ nI 9 = 6 by decide, show ¬ nI 9 = 7 by decide, show ¬ nI 9 = 8 by decide, show ¬ 9 = 1 by decide, show ¬ 9 = 2 by decide, show ¬ 9 = 3 by decide, show ¬ 9 = 4 by decide, show ¬ 9 = 6 by decide, show ¬ 9 = 7 by decide, show ¬ 9 = 8 by decide, show (nI 9 = 9) = True from eq_true rfl, if_false, if_true]
    rw [z_r c1.1 hr, qk_true, qv_eq, c6.1, at16 (by omega), qc_some', z_i256 c1.1, qk_true]
    exact id1 (k_takeBits hr h hA e c f)
  · simp only [e, show ¬ nI 10 = 1 by decide, show ¬ nI 10 = 2 by decide, show ¬ nI 10 = 3 by decide, show ¬ nI 10 = 4 by decide, show ¬ nI 10 = 5 by decide, show ¬ nI 10 = 6 by decide, show ¬ nI 10 = 7 by decide, show ¬ nI 10 = 8 by decide, show ¬ nI 10 = 9 by decide, show ¬ 10 = 1 by decide, show ¬ 10 = 2 by decide, show ¬ 10 = 3 by decide, show ¬ 10 = 4 by decide, show ¬ 10 = 6 by decide, show ¬ 10 = 7 by decide, show ¬ 10 = 8 by decide, show ¬ 10 = 9 by decide, show (nI 10 = 10) = True from eq_true rfl, if_false, if_true]
    rw [z_r c1.1 hr, qk_true, qv_eq, c6.1, at16 (by omega), qc_some', z_i256 c1.1, qk_true]
    exact id1 (k_takeState hF hr h hA e c f)
  · simp only [e, show ¬ nI 11 = 1 by decide, show ¬ nI 11 = 2 by decide, show ¬ nI 11 = 3 by decide, show ¬ nI 11 = 4 by decide, show ¬ nI 11 = 5 by decide, show ¬ nI 11 = 6 by decide, show ¬ nI 11 = 7 by decide, show ¬ nI 11 = 8 by decide, show ¬ nI 11 = 9 by decide, show ¬ nI 11 = 10 by decide, show ¬ 11 = 1 by decide, show ¬ 11 = 2 by decide, show ¬ 11 = 3 by decide, show ¬ 11 = 4 by decide, show ¬ 11 = 6 by decide, show ¬ 11 = 7 by decide, show ¬ 11 = 8 by decide, show ¬ 11 = 9 by decide, show ¬ 11 = 10 by decide, show (nI 11 = 11) = True from eq_true rfl, if_false, if_true]
    rw [qv_eq, c.1]
    have w7 := hA.2.2.2.2.2.1 (by omega : 5 ≤ A.w)
    by_cases q : t.1 = 4 ∧ t.2.1 = 44
    · rw [if_pos (kq.2.2.2.2.2.2.2.1.mpr q), if_pos q, k_go c1.1, qc_some']
      exact TO_go (x := 10) hr h n16 (fun q => ⟨by omega, w7.1⟩) (fun _ q => by omega) (fun _ q => by omega)
    · rw [if_neg (fun p => q (kq.2.2.2.2.2.2.2.1.mp p)), if_neg q]
      exact id1 (k_takePart hF hr h hA (by omega) c f)
end CRD
