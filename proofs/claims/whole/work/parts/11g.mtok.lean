/-! the model's words and numbers -/
theorem cA_f {c : Nat} (h : cA c = false) : cL c = false ∧ cD c = false := by
  unfold cA at h
  cases h1 : cD c <;> cases h2 : cL c <;> rw [h1, h2] at h <;> first | exact ⟨rfl, rfl⟩ | exact absurd h (by decide)
section MTN
variable {S T : gk_S} {F m : Nat} {b : Nat → Nat}
theorem v_end (h : MD T b m) {p : Nat} (hp : p ≤ m) (hA : p < m → cA (b p) = false) : (decide (p < m) && cL (b p)) = false ∧ (decide (p < m) && cD (b p)) = false := by
  by_cases c : p < m
  · have := cA_f (hA c)
    rw [this.1, this.2, Bool.and_false]
    exact ⟨rfl, rfl⟩
  · rw [decide_eq_false c]; exact ⟨rfl, rfl⟩
theorem v_rw7 {s : Nat} : ∀ d p fu (T : gk_S) fl, MD T b m → gI T 904 352 = nI p → p + d = m → d < fu → f_X12_readWord_7 F fu 352 (bI fl) (nI s) T = f_X12_readWord_7 F 1 352 (bI (fl && alL b (scn (fun i => cA (b i)) d p - p) p)) (nI s) (sI T 904 352 (nI (scn (fun i => cA (b i)) d p))) := by
  have last : ∀ p fu (T : gk_S) fl, MD T b m → gI T 904 352 = nI p → p ≤ m → (p < m → cA (b p) = false) → f_X12_readWord_7 F (fu + 1) 352 (bI fl) (nI s) T = f_X12_readWord_7 F 1 352 (bI fl) (nI s) T := by
    intro p fu T fl h e4 hp hA
    have m2 := h.2.2.1
    have a := v_bat (F := F) h (show p < 2 ^ 31 by omega)
    obtain ⟨c1, c2⟩ := v_end h hp hA
    simp only [f_X12_readWord_7, qk_true, qk_false, qv_eq, qP_some', qP_none, qc_some', qc_none, qx_inl', qx_inr', qh_inl', qh_inr', z_i352 h.1, e4, a, v_sml h, v_dig h, c1, c2, show bI false = 0 from rfl, if_true]
  intro d
  induction d with
  | zero =>
    intro p fu T fl h e4 h1 h2
    obtain ⟨fu, rfl⟩ : ∃ q, fu = q + 1 := ⟨fu - 1, by omega⟩
    rw [last p fu T fl h e4 (by omega) (fun q => by omega), scn, Nat.sub_self, alL, Bool.and_true, sI_id T 904 352 e4]
  | succ d ih =>
    intro p fu T fl h e4 h1 h2
    obtain ⟨fu, rfl⟩ : ∃ q, fu = q + 1 := ⟨fu - 1, by omega⟩
    have m2 := h.2.2.1
    rw [scn]
    cases hA : cA (b p)
    · rw [last p fu T fl h e4 (by omega) (fun _ => hA), if_neg (by decide), Nat.sub_self, alL, Bool.and_true, sI_id T 904 352 e4]
    · have a := v_bat (F := F) h (show p < 2 ^ 31 by omega)
      have g := scn_ge (fun i => cA (b i)) d (p + 1)
      have pm : decide (p < m) = true := decide_eq_true (by omega)
      have go : f_X12_readWord_35 F (f_X12_readWord_7 F fu) 352 (bI fl) (nI s) T = f_X12_readWord_7 F fu 352 (bI (fl && cL (b p))) (nI s) (sI T 904 352 (nI (p + 1))) := by
        unfold f_X12_readWord_35 f_X12_readWord_58
        cases fl
        · rw [if_pos (show bI false = 0 from rfl), z_i352 h.1, qk_true, qv_eq, e4, qv_eq, nI_1]; rfl
        · rw [if_neg (show ¬ bI true = 0 by decide), z_i352 h.1, qk_true, qv_eq, e4, a, qc_some', v_sml h, qc_some', pm, Bool.true_and]
          cases cL (b p)
          · rw [if_pos (show bI false = 0 from rfl), z_i352 h.1, qk_true, qv_eq, e4, qv_eq, nI_1]; rfl
          · rw [if_neg (show ¬ bI true = 0 by decide), z_i352 h.1, qk_true, qv_eq, e4, qv_eq, nI_1]; rfl
      have st : f_X12_readWord_7 F (fu + 1) 352 (bI fl) (nI s) T = f_X12_readWord_35 F (f_X12_readWord_7 F fu) 352 (bI fl) (nI s) T := by
        rw [f_X12_readWord_7, z_i352 h.1, qk_true, qv_eq, e4, a, qc_some', v_sml h, qc_some', pm, Bool.true_and]
        cases hL : cL (b p)
        · have hD : cD (b p) = true := by unfold cA at hA; rw [hL, Bool.or_false] at hA; exact hA
          rw [if_pos (show bI false = 0 from rfl), z_i352 h.1, qk_true, qv_eq, e4, a, qc_some', v_dig h, qc_some', pm, hD, if_neg (show ¬ bI (true && true) = 0 by decide)]
        · rw [if_neg (show ¬ bI true = 0 by decide)]
      rw [st, go, ih (p + 1) fu _ _ (MD_sI h (by decide) _ _) (rd_eq _ _ _ _) (by omega) (by omega), sI_sI, if_pos rfl, show scn (fun i => cA (b i)) d (p + 1) - p = (scn (fun i => cA (b i)) d (p + 1) - (p + 1)) + 1 by omega, alL, Bool.and_assoc]
theorem v_readWord (hF : 16400 ≤ F) {s : Nat} (h : MD T b m) (e4 : gI T 904 352 = nI s) (hs : s < m) : ∃ T', f_X12_readWord F T 352 = some ((), T') ∧ Frm [904, 914, 916] [] [] [] [] [] T T' ∧ gI T' 914 352 = (if alL b (runE b m s - s) s = true ∧ runE b m s - s ≤ 11 then 1 else 5) ∧ gI T' 904 352 = nI (runE b m s) ∧ gI T' 916 352 = wval (wix (bl b (runE b m s - s) s)) 18 := by
  have m2 := h.2.2.1
  have r := v_rw7 (F := F) (s := s) (m - s) s F T true h e4 (by omega) (by omega)
  have g := scn_ge (fun i => cA (b i)) (m - s) s
  have gn := scn_no (fun i => cA (b i)) (m - s) s
  rw [show scn (fun i => cA (b i)) (m - s) s = runE b m s from rfl] at r g gn
  generalize runE b m s = e at r g gn
  have h' := MD_sI h (f := 904) (by decide) 352 (nI e)
  have f1 : Frm [904, 914, 916] [] [] [] [] [] T (sI T 904 352 (nI e)) := Fr_sI Fr_refl (by decide) _ _
  have e4' : gI (sI T 904 352 (nI e)) 904 352 = nI e := rd_eq _ _ _ _
  unfold f_X12_readWord
  rw [z_i352 h.1, qk_true, qv_eq, e4, show (1 : Int32) = bI true from rfl, r, Bool.true_and]
  generalize sI T 904 352 (nI e) = T1 at h' f1 e4'
  have a := v_bat (F := F) h' (show e < 2 ^ 31 by omega)
  obtain ⟨c1, c2⟩ := v_end h' (by omega : e ≤ m) (fun q => gn (by omega))
  have z11 : 11 < nI (e - s) ↔ 11 < e - s := nI_ltI (a := 11) (by omega) (by omega)
  have fin : ∀ x : Int32, ∃ T', f_X12_readWord_103 F F 352 (nI s) 0 (sI (sI T1 914 352 x) 916 352 (-1)) = some ((), T') ∧ Frm [904, 914, 916] [] [] [] [] [] T T' ∧ gI T' 914 352 = x ∧ gI T' 904 352 = nI e ∧ gI T' 916 352 = wval (wix (bl b (e - s) s)) 18 := by
    intro x
    have h2 := MD_sI (MD_sI h' (f := 914) (by decide) 352 x) (f := 916) (by decide) 352 (-1)
    have f2 : Frm [904, 914, 916] [] [] [] [] [] T (sI (sI T1 914 352 x) 916 352 (-1)) := Fr_sI (Fr_sI f1 (by decide) _ _) (by decide) _ _
    have q4 : gI (sI (sI T1 914 352 x) 916 352 (-1)) 904 352 = nI e := by rw [rd_ne _ _ (Or.inl (by decide)), rd_ne _ _ (Or.inl (by decide))]; exact e4'
    have q14 : gI (sI (sI T1 914 352 x) 916 352 (-1)) 914 352 = x := by rw [rd_ne _ _ (Or.inl (by decide))]; exact rd_eq _ _ _ _
    have q16 : gI (sI (sI T1 914 352 x) 916 352 (-1)) 916 352 = -1 := rd_eq _ _ _ _
    generalize sI (sI T1 914 352 x) 916 352 (-1) = T2 at h2 f2 q4 q14 q16
    have r3 := v_rw103 (F := F) hF g.1 (by omega : e ≤ m) 18 0 F T2 h2 q4 (by omega) (by omega) (by rw [q16]; unfold wval; rw [if_neg (by omega)])
    refine ⟨_, r3, Fr_sI f2 (by decide) _ _, ?_, ?_, rd_eq _ _ _ _⟩
    · rw [rd_ne _ _ (Or.inl (by decide))]; exact q14
    · rw [rd_ne _ _ (Or.inl (by decide))]; exact q4
  rw [f_X12_readWord_7, z_i352 h'.1, qk_true, qv_eq, e4', a, qc_some', v_sml h', qc_some', c1, if_pos (show bI false = 0 from rfl), z_i352 h'.1, qk_true, qv_eq, e4', a, qc_some', v_dig h', qc_some', c2, if_pos (show bI false = 0 from rfl)]
  have bad : ∃ T', f_X12_readWord_92 F 352 (nI s) 352 T1 = some ((), T') ∧ Frm [904, 914, 916] [] [] [] [] [] T T' ∧ gI T' 914 352 = 5 ∧ gI T' 904 352 = nI e ∧ gI T' 916 352 = wval (wix (bl b (e - s) s)) 18 := by
    unfold f_X12_readWord_92
    rw [z_i352 h'.1, qk_true, qv_eq, z_i352 (Sh_sI h'.1 _ _ _), qk_true, qv_eq]
    exact fin 5
  cases hL : alL b (e - s) s
  · rw [if_pos (show bI false = 0 from rfl), if_neg (fun q => absurd q.1 (by decide))]
    exact bad
  · rw [if_neg (show ¬ bI true = 0 by decide), z_i352 h'.1, qk_true, qv_eq, e4', pk_sub g.1]
    by_cases c11 : 11 < e - s
    · rw [if_pos (z11.mpr c11), if_neg (fun q => by omega)]
      exact bad
    · rw [if_neg (fun q => c11 (z11.mp q)), if_pos ⟨rfl, by omega⟩, qv_eq, qv_eq]
      exact fin 1
theorem v_rn12 {x y : Int32} : ∀ d p fu (T : gk_S), MD T b m → gI T 904 352 = nI p → p + d = m → d < fu → f_X12_readNumber_12 F fu 352 x y T = f_X12_readNumber_12 F 1 352 x y (sI T 904 352 (nI (scn (fun i => cD (b i)) d p))) := by
  have last : ∀ p fu (T : gk_S), MD T b m → gI T 904 352 = nI p → p ≤ m → (p < m → cD (b p) = false) → f_X12_readNumber_12 F (fu + 1) 352 x y T = f_X12_readNumber_12 F 1 352 x y T := by
    intro p fu T h e4 hp hA
    have m2 := h.2.2.1
    have a := v_bat (F := F) h (show p < 2 ^ 31 by omega)
    have c2 : (decide (p < m) && cD (b p)) = false := by
      by_cases c : p < m
      · rw [hA c, Bool.and_false]
      · rw [decide_eq_false c]; rfl
    simp only [f_X12_readNumber_12, qk_true, qk_false, qv_eq, qP_some', qP_none, qc_some', qc_none, qx_inl', qx_inr', qh_inl', qh_inr', z_i352 h.1, e4, a, v_dig h, c2, show bI false = 0 from rfl, if_true]
  intro d
  induction d with
  | zero =>
    intro p fu T h e4 h1 h2
    obtain ⟨fu, rfl⟩ : ∃ q, fu = q + 1 := ⟨fu - 1, by omega⟩
    rw [last p fu T h e4 (by omega) (fun q => by omega), scn, sI_id T 904 352 e4]
  | succ d ih =>
    intro p fu T h e4 h1 h2
    obtain ⟨fu, rfl⟩ : ∃ q, fu = q + 1 := ⟨fu - 1, by omega⟩
    have m2 := h.2.2.1
    rw [scn]
    cases hA : cD (b p)
    · rw [last p fu T h e4 (by omega) (fun _ => hA), if_neg (by decide), sI_id T 904 352 e4]
    · have a := v_bat (F := F) h (show p < 2 ^ 31 by omega)
      have pm : decide (p < m) = true := decide_eq_true (by omega)
      rw [f_X12_readNumber_12, z_i352 h.1, qk_true, qv_eq, e4, a, qc_some', v_dig h, qc_some', pm, hA, if_neg (show ¬ bI (true && true) = 0 by decide), z_i352 h.1, qk_true, qv_eq, e4, qv_eq, nI_1, ih (p + 1) fu _ (MD_sI h (by decide) _ _) (rd_eq _ _ _ _) (by omega) (by omega), sI_sI, if_pos rfl]
theorem v_rn72 {s : Nat} : ∀ d q fu (T : gk_S) fl, MD T b m → gI T 904 352 = nI q → q + d = m → d < fu → s ≤ q → (fl = true → gJ T 917 352 = lN (nv b (q - s) s 0)) → fl = (alD b (q - s) s && decide (q - s ≤ 5)) → ∃ T', f_X12_readNumber_72 F fu 352 (nI s) (bI fl) T = some ((), T') ∧ Frm [904, 914] [917] [] [] [] [] T T' ∧ (if (alD b (scn (fun i => cA (b i)) d q - s) s && decide (scn (fun i => cA (b i)) d q - s ≤ 5)) = true then gI T' 914 352 = 2 ∧ gI T' 904 352 = nI (scn (fun i => cA (b i)) d q) ∧ gJ T' 917 352 = lN (nv b (scn (fun i => cA (b i)) d q - s) s 0) else gI T' 914 352 = 5) := by
  have last : ∀ q fu (T : gk_S) fl, MD T b m → gI T 904 352 = nI q → q ≤ m → (q < m → cA (b q) = false) → s ≤ q → (fl = true → gJ T 917 352 = lN (nv b (q - s) s 0)) → fl = (alD b (q - s) s && decide (q - s ≤ 5)) → ∃ T', f_X12_readNumber_72 F (fu + 1) 352 (nI s) (bI fl) T = some ((), T') ∧ Frm [904, 914] [917] [] [] [] [] T T' ∧ (if (alD b (q - s) s && decide (q - s ≤ 5)) = true then gI T' 914 352 = 2 ∧ gI T' 904 352 = nI q ∧ gJ T' 917 352 = lN (nv b (q - s) s 0) else gI T' 914 352 = 5) := by
    intro q fu T fl h e4 hq hA hs hv hfl
    have m2 := h.2.2.1
    have a := v_bat (F := F) h (show q < 2 ^ 31 by omega)
    obtain ⟨c1, c2⟩ := v_end h hq hA
    rw [← hfl]
    rw [f_X12_readNumber_72, z_i352 h.1, qk_true, qv_eq, e4, a, qc_some', v_sml h, qc_some', c1, if_pos (show bI false = 0 from rfl), z_i352 h.1, qk_true, qv_eq, e4, a, qc_some', v_dig h, qc_some', c2, if_pos (show bI false = 0 from rfl)]
    cases fl
    · rw [if_pos (show bI false = 0 from rfl), z_i352 h.1, qk_true, qv_eq]
      refine ⟨_, rfl, Fr_sI Fr_refl (by decide) _ _, ?_⟩
      rw [if_neg (show ¬ false = true by decide)]
      exact rd_eq _ _ _ _
    · rw [if_neg (show ¬ bI true = 0 by decide), z_i352 h.1, qk_true, qv_eq]
      refine ⟨_, rfl, Fr_sI Fr_refl (by decide) _ _, ?_⟩
      rw [if_pos rfl]
      refine ⟨rd_eq _ _ _ _, ?_, ?_⟩
      · rw [rd_ne _ _ (Or.inl (by decide))]; exact e4
      · rw [rj_I]; exact hv rfl
  intro d
  induction d with
  | zero =>
    intro q fu T fl h e4 h1 h2 hs hv hfl
    obtain ⟨fu, rfl⟩ : ∃ q, fu = q + 1 := ⟨fu - 1, by omega⟩
    exact last q fu T fl h e4 (by omega) (fun q => by omega) hs hv hfl
  | succ d ih =>
    intro q fu T fl h e4 h1 h2 hs hv hfl
    obtain ⟨fu, rfl⟩ : ∃ q, fu = q + 1 := ⟨fu - 1, by omega⟩
    have m2 := h.2.2.1
    rw [scn]
    cases hA : cA (b q)
    · rw [if_neg (by decide)]
      exact last q fu T fl h e4 (by omega) (fun _ => hA) hs hv hfl
    · rw [if_pos rfl]
      have a := v_bat (F := F) h (show q < 2 ^ 31 by omega)
      have pm : decide (q < m) = true := decide_eq_true (by omega)
      have am : mb b m q = nI (b q) := by unfold mb; rw [if_pos (by omega)]
      have st : f_X12_readNumber_72 F (fu + 1) 352 (nI s) (bI fl) T = f_X12_readNumber_100 F (f_X12_readNumber_72 F fu) 352 (nI s) (bI fl) T := by
        rw [f_X12_readNumber_72, z_i352 h.1, qk_true, qv_eq, e4, a, qc_some', v_sml h, qc_some', pm, Bool.true_and]
        cases hL : cL (b q)
        · have hD : cD (b q) = true := by unfold cA at hA; rw [hL, Bool.or_false] at hA; exact hA
          rw [if_pos (show bI false = 0 from rfl), z_i352 h.1, qk_true, qv_eq, e4, a, qc_some', v_dig h, qc_some', pm, hD, if_neg (show ¬ bI (true && true) = 0 by decide)]
        · rw [if_neg (show ¬ bI true = 0 by decide)]
      have bad : ∀ fl', fl' = false → false = (alD b (q + 1 - s) s && decide (q + 1 - s ≤ 5)) → ∃ T', f_X12_readNumber_133 F (f_X12_readNumber_72 F fu) 352 (nI s) 0 T = some ((), T') ∧ Frm [904, 914] [917] [] [] [] [] T T' ∧ (if (alD b (scn (fun i => cA (b i)) d (q + 1) - s) s && decide (scn (fun i => cA (b i)) d (q + 1) - s ≤ 5)) = true then gI T' 914 352 = 2 ∧ gI T' 904 352 = nI (scn (fun i => cA (b i)) d (q + 1)) ∧ gJ T' 917 352 = lN (nv b (scn (fun i => cA (b i)) d (q + 1) - s) s 0) else gI T' 914 352 = 5) := by
        intro fl' hf' hn
        unfold f_X12_readNumber_133 f_X12_readNumber_165
        have h3 := MD_sJ h 917 352 0
        rw [if_pos rfl, z_i352 h.1, qk_true, qv_eq, z_i352 h3.1, qk_true, qv_eq, rd_J, e4, qv_eq, nI_1]
        obtain ⟨T', r, f, sp⟩ := ih (q + 1) fu (sI (sJ T 917 352 0) 904 352 (nI (q + 1))) false (MD_sI h3 (by decide) _ _) (rd_eq _ _ _ _) (by omega) (by omega) (by omega) (fun e => absurd e (by decide)) hn
        exact ⟨T', r, Fr_trans (Fr_sI (Fr_sJ Fr_refl (by decide) _ _) (by decide) _ _) f, sp⟩
      have es : q + 1 - s = (q - s) + 1 := by omega
      have eq : s + (q - s) = q := by omega
      rw [st]
      unfold f_X12_readNumber_100
      cases fl
      · rw [if_pos (show bI false = 0 from rfl)]
        refine bad false rfl ?_
        rw [es, alD_snoc, eq]
        cases h1 : alD b (q - s) s
        · rfl
        · rw [h1, Bool.true_and] at hfl
          have : ¬ q - s ≤ 5 := of_decide_eq_false hfl.symm
          rw [decide_eq_false (show ¬ q - s + 1 ≤ 5 by omega), Bool.and_false]
      · have ha : alD b (q - s) s = true := by
          cases e : alD b (q - s) s
          · rw [e, Bool.false_and] at hfl; exact absurd hfl (by decide)
          · rfl
        have hl5 : q - s ≤ 5 := by
          rw [ha, Bool.true_and] at hfl
          exact of_decide_eq_true hfl.symm
        rw [if_neg (show ¬ bI true = 0 by decide), z_i352 h.1, qk_true, qv_eq, e4, a, qc_some', v_dig h, qc_some', pm, Bool.true_and]
        cases hD : cD (b q)
        · rw [if_pos (show bI false = 0 from rfl)]
          refine bad false rfl ?_
          rw [es, alD_snoc, eq, hD, Bool.and_false]
          rfl
        · have z5 : 5 ≤ nI (q - s) ↔ 5 ≤ q - s := nI_leI (a := 5) (by omega) (by omega)
          rw [if_neg (show ¬ bI true = 0 by decide), z_i352 h.1, qk_true, qv_eq, e4, pk_sub hs]
          by_cases c5 : 5 ≤ q - s
          · rw [if_pos (z5.mpr c5)]
            refine bad false rfl ?_
            rw [decide_eq_false (show ¬ q + 1 - s ≤ 5 by omega), Bool.and_false]
          · rw [if_neg (fun e => c5 (z5.mp e))]
            have cd := cD_r hD
            have vb := nv_lt b (q - s) s 0 0 ha (by decide)
            have p5 : 10 ^ (0 + (q - s)) ≤ 10 ^ 5 := Nat.pow_le_pow_right (by decide) (by omega)
            have bq := MD_b h q
            have ev : (10 : Int64) * lN (nv b (q - s) s 0) + lN (b q) - 48 = lN (nv b (q + 1 - s) s 0) := by
              rw [es, nv_snoc, eq, show (10 : Int64) = lN 10 from rfl, lN_mul, lN_add, show (48 : Int64) = lN 48 from rfl, lN_sub (by omega), Nat.mul_comm 10]
            unfold f_X12_readNumber_133 f_X12_readNumber_165
            rw [if_neg (by decide), z_i352 h.1, qk_true, qv_eq, hv rfl, qv_eq, e4, a, qc_some', am, nI_l (by omega), ev]
            have h3 := MD_sJ h 917 352 (lN (nv b (q + 1 - s) s 0))
            rw [z_i352 h.1, qk_true, qv_eq, z_i352 h3.1, qk_true, qv_eq, rd_J, e4, qv_eq, nI_1]
            obtain ⟨T', r, f, sp⟩ := ih (q + 1) fu (sI (sJ T 917 352 (lN (nv b (q + 1 - s) s 0))) 904 352 (nI (q + 1))) true (MD_sI h3 (by decide) _ _) (rd_eq _ _ _ _) (by omega) (by omega) (by omega) (fun _ => by rw [rj_I]; exact rj_eq _ _ _ _) (by rw [es, alD_snoc, eq, ha, hD, decide_eq_true (show q - s + 1 ≤ 5 by omega)]; rfl)
            exact ⟨T', r, Fr_trans (Fr_sI (Fr_sJ Fr_refl (by decide) _ _) (by decide) _ _) f, sp⟩
end MTN
