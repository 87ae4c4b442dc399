/-! least: the class takes over what is needed -/
section TKO
variable {S T : gk_S} {F r q m : Nat} {L M : AL}
theorem DF_CL (h : DF r S T) (hr : Ba r) (hq : Ba q) (ne : r ≠ q) (c : CL S q L) (hn : L.n ≤ 16) : CL T q L := (GF_CL (GF_D h) hr hq ne c hn).1
def TOv (T : gk_S) (r : Nat) (L : AL) (m j : Nat) : Prop := gI T 401 r = nI (Rk m j) ∧ gI T 402 r = nI L.p ∧ gI T 403 r = 0 ∧ ∀ i, i < j → Nat.testBit m i = true → CR T (ru r (Rk m i)) (L.r i) ∧ gI T 304 (ru r (Rk m i)) = 0
theorem k_to14 (hF : 16400 ≤ F) (hr : Ba r) (hq : Ba q) (ne : r ≠ q) (hn : L.n ≤ 16) (hm : m < 65536) : ∀ d j fu (T : gk_S), j + d = L.n → d < fu → Sh T → CL T q L → TOv T r L m j → ∃ T', f_X6_takeOver_14 F fu r q (nI m) (nI j) T = some ((), T') ∧ DF r T T' ∧ TOv T' r L m L.n := by
  intro d
  induction d with
  | zero =>
    intro j fu T h1 h2 hs c t
    obtain ⟨fu, rfl⟩ : ∃ z, fu = z + 1 := ⟨fu - 1, by omega⟩
    rw [f_X6_takeOver_14, z_r hs hq, qk_true, qv_eq, c.1, if_pos (nI_le (by omega) (by omega))]
    have e : j = L.n := by omega
    exact ⟨T, rfl, DF_refl, e ▸ t⟩
  | succ d ih =>
    intro j fu T h1 h2 hs c t
    obtain ⟨fu, rfl⟩ : ∃ z, fu = z + 1 := ⟨fu - 1, by omega⟩
    obtain ⟨t1, t2, t3, t4⟩ := t
    have kj := Rk_n m j
    rw [f_X6_takeOver_14, z_r hs hq, qk_true, qv_eq, c.1, if_neg (nI_ge (by omega) (by omega)), if_neg (show ¬ (16 : Int32) ≤ nI j from nI_ge (b := 16) (by omega) (by omega)), nI_1]
    have tb := (tb_iff (a := m) (i := j) (by omega) (by omega)).2
    cases b : Nat.testBit m j
    · rw [if_pos (tb.mpr b)]
      exact ih (j + 1) fu T (by omega) (by omega) hs c ⟨by rw [Rk_0 b]; exact t1, t2, t3, fun i hi p => by
        by_cases e : i = j
        · rw [e, b] at p; exact absurd p (by decide)
        · exact t4 i (by omega) p⟩
    · rw [if_neg (fun e => by rw [tb.mp e] at b; exact absurd b (by decide))]
      obtain ⟨T1, r1, r2, r3, r4⟩ := k_to (F := F) (i := Rk m j) (j := j) hF hr hq (by omega) (by omega) ne hs (c.2.2 j (by omega))
      have d1 := UF_DF (r := r) (i := Rk m j) (by omega) r2
      have s1 := DF_Sh d1 hs
      have ui := ru_in (r := r) (i := Rk m j) (by omega)
      have nr : r ≠ ru r (Rk m j) := by unfold ru; omega
      have g1 : gI T1 401 r = nI (Rk m j) := (r2.2.2.2.1 401 r nr).trans t1
      have e1 : nI (Rk m j) + 1 = nI (Rk m j + 1) := nI_1 _
      have d2 : DF r T (sI T1 401 r (nI (Rk m j + 1))) := DF_sI d1 (Or.inr (by omega)) _
      have s2 := Sh_sI s1 401 r (nI (Rk m j + 1))
      rw [z_r hs hr, qk_true, qv_eq, t1, k_at hs hr (by omega), qc_some', z_r hs hq, qk_true, k_at hs hq (by omega), qc_some', z_u hs hr (by omega), qk_true, r1, qc_some', z_r s1 hr, qk_true, qv_eq, g1, e1, qv_eq]
      obtain ⟨T', q1, q2, q3⟩ := ih (j + 1) fu (sI T1 401 r (nI (Rk m j + 1))) (by omega) (by omega) s2 (DF_CL d2 hr hq ne c hn) ⟨by rw [Rk_1 b]; exact rd_eq _ _ _ _, by rw [rd_ne _ _ (Or.inl (by decide)), r2.2.2.2.1 402 r nr]; exact t2, by rw [rd_ne _ _ (Or.inl (by decide)), r2.2.2.2.1 403 r nr]; exact t3, fun i hi p => by
        by_cases e : i = j
        · subst e
          exact ⟨CR_c r3 ⟨rd_ne _ _ (Or.inl (by decide)), rd_ne _ _ (Or.inl (by decide)), rfl, rfl⟩, by rw [rd_ne _ _ (Or.inl (by decide))]; exact r4⟩
        · obtain ⟨x1, x2⟩ := t4 i (by omega) p
          have lt := Rk_lt p (show i < j by omega)
          have n1 : ru r (Rk m i) ≠ ru r (Rk m j) := by unfold ru; omega
          have n2 : ru r (Rk m i) + 1 ≠ ru r (Rk m j) + 1 ∧ ru r (Rk m i) + 1 ≠ ru r (Rk m j) + 2 ∧ ru r (Rk m i) + 2 ≠ ru r (Rk m j) + 1 ∧ ru r (Rk m i) + 2 ≠ ru r (Rk m j) + 2 := by unfold ru; omega
          exact ⟨CR_c x1 ⟨(rd_ne _ _ (Or.inl (by decide))).trans (r2.2.2.2.1 _ _ n1), (rd_ne _ _ (Or.inl (by decide))).trans (r2.2.2.2.1 _ _ n1), r2.2.2.2.2.2.2.2.1 _ n2.1 n2.2.1, r2.2.2.2.2.2.2.2.1 _ n2.2.2.1 n2.2.2.2⟩, by rw [rd_ne _ _ (Or.inl (by decide)), r2.2.2.2.1 _ _ n1]; exact x2⟩⟩
      exact ⟨T', q1, DF_trans d2 q2, q3⟩
theorem k_takeO (hF : 16400 ≤ F) (hr : Ba r) (hq : Ba q) (ne : r ≠ q) (hn : L.n ≤ 16) (hm : m < 65536) (hs : Sh T) (c : CL T q L) : ∃ T', f_X6_takeOver F T r q (nI m) = some ((), T') ∧ DF r T T' ∧ gI T' 401 r = nI (Rk m L.n) ∧ gI T' 403 r = 0 ∧ ∀ M, Cmp L m M → CL T' r M ∧ ∀ i, i < M.n → gI T' 304 (ru r i) = 0 := by
  have s3 := Sh_sI (Sh_sI (Sh_sI hs 401 r 0) 402 r 0) 403 r 0
  have s4 := Sh_sI s3 402 r (nI L.p)
  have d3 : DF r T (sI (sI (sI T 401 r 0) 402 r 0) 403 r 0) := DF_sI (DF_sI (DF_sI DF_refl (Or.inr (by omega)) _) (Or.inr (by omega)) _) (Or.inr (by omega)) _
  have d4 : DF r T (sI (sI (sI (sI T 401 r 0) 402 r 0) 403 r 0) 402 r (nI L.p)) := DF_sI d3 (Or.inr (by omega)) _
  have c3 := DF_CL d3 hr hq ne c hn
  have g1 : gI (sI (sI (sI (sI T 401 r 0) 402 r 0) 403 r 0) 402 r (nI L.p)) 401 r = nI 0 := by
    rw [rd_ne _ _ (Or.inl (by decide)), rd_ne _ _ (Or.inl (by decide)), rd_ne _ _ (Or.inl (by decide))]; exact rd_eq _ _ _ _
  have g2 : gI (sI (sI (sI (sI T 401 r 0) 402 r 0) 403 r 0) 402 r (nI L.p)) 402 r = nI L.p := rd_eq _ _ _ _
  have g3 : gI (sI (sI (sI (sI T 401 r 0) 402 r 0) 403 r 0) 402 r (nI L.p)) 403 r = 0 := by
    rw [rd_ne _ _ (Or.inl (by decide))]; exact rd_eq _ _ _ _
  have pre : f_X6_takeOver F T r q (nI m) = f_X6_takeOver_14 F F r q (nI m) (nI 0) (sI (sI (sI (sI T 401 r 0) 402 r 0) 403 r 0) 402 r (nI L.p)) := by
    unfold f_X6_takeOver f_X6_clear
    rw [z_r hs hr, qk_true, qk_true, qv_eq, qv_eq, qv_eq, qc_some', z_r s3 hq, qk_true, qv_eq, c3.2.1, z_r s3 hr, qk_true, qv_eq]
    rfl
  generalize sI (sI (sI (sI T 401 r 0) 402 r 0) 403 r 0) 402 r (nI L.p) = T4 at s4 d4 g1 g2 g3 pre
  obtain ⟨T', q1, q2, q3, q4, q5, q6⟩ := k_to14 (F := F) (m := m) hF hr hq ne hn hm L.n 0 F T4 (by omega) (by omega) s4 (DF_CL d4 hr hq ne c hn) ⟨g1, g2, g3, fun i hi => by omega⟩
  refine ⟨T', pre.trans q1, DF_trans d4 q2, q3, q5, fun M cm => ⟨⟨by rw [cm.2.1]; exact q3, by rw [cm.1]; exact q4, fun k hk => ?_⟩, fun k hk => ?_⟩⟩
  · rw [cm.2.1] at hk
    obtain ⟨i, h1, h2, h3⟩ := Rk_sur _ hk
    have := (q6 i h1 h2).1
    rw [h3] at this
    rw [← h3, cm.2.2 i h1 h2, h3]
    exact this
  · rw [cm.2.1] at hk
    obtain ⟨i, h1, h2, h3⟩ := Rk_sur _ hk
    have := (q6 i h1 h2).2
    rw [h3] at this
    exact this
end TKO
