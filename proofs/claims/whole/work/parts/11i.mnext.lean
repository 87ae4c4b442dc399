/-! the model's next token -/
def MTk (T : gk_S) (b : Nat → Nat) (s : Nat) (t : Nat × Nat × Nat) : Prop := gI T 914 352 = nI t.1 ∧ gI T 915 352 = nI s ∧ (t.1 < 5 → gI T 904 352 = nI t.2.2) ∧ (t.1 = 1 → gI T 916 352 = wval (wix (bl b (t.2.2 - s) s)) 18) ∧ (t.1 = 4 → gI T 916 352 = nI t.2.1) ∧ (t.1 = 2 ∨ t.1 = 3 → gJ T 917 352 = lN t.2.1)
section MTX
variable {S T : gk_S} {F m : Nat} {b : Nat → Nat}
theorem v_readNumber (hF : 16400 ≤ F) {s : Nat} (h : MD T b m) (e4 : gI T 904 352 = nI s) (e15 : gI T 915 352 = nI s) (hs : s < m) (hD : cD (b s) = true) : ∃ T', f_X12_readNumber F T 352 = some ((), T') ∧ Frm [904, 914] [917] [] [] [] [] T T' ∧ MTk T' b s (tok b m s) := by
  have m2 := h.2.2.1
  have hA : cA (b s) = true := by unfold cA; rw [hD]; rfl
  have h1 := MD_sJ h 917 352 0
  have r12 := v_rn12 (F := F) (x := nI s) (y := 1) (m - s) s F (sJ T 917 352 0) h1 (by rw [rd_J]; exact e4) (by omega) (by omega)
  have dg := scn_ge (fun i => cD (b i)) (m - s) s
  have dn := scn_no (fun i => cD (b i)) (m - s) s
  have din := scn_in (fun i => cD (b i)) (m - s) s
  have rg := scn_ge (fun i => cA (b i)) (m - s) s
  have rn := scn_no (fun i => cA (b i)) (m - s) s
  have rin := scn_in (fun i => cA (b i)) (m - s) s
  have hr := run_le b hs hA
  have xE := scn_no (fun i => cX (b i)) (m - s) s
  have xin := scn_in (fun i => cX (b i)) (m - s) s
  have xg := adr_le b hs hA
  have r72 := fun T fl => v_rn72 (F := F) (b := b) (m := m) (s := s) (m - s) s F T fl
  rw [show scn (fun i => cA (b i)) (m - s) s = runE b m s from rfl] at rg rn rin
  rw [show scn (fun i => cX (b i)) (m - s) s = adrE b m s from rfl] at xE xin
  simp only [show scn (fun i => cA (b i)) (m - s) s = runE b m s from rfl] at r72
  generalize hde : scn (fun i => cD (b i)) (m - s) s = de at r12 dg dn din
  have h2 := MD_sI h1 (f := 904) (by decide) 352 (nI de)
  have a := v_bat (F := F) h2 (show de < 2 ^ 31 by omega)
  have c2 : (decide (de < m) && cD (b de)) = false := by
    by_cases c : de < m
    · rw [dn (by omega), Bool.and_false]
    · rw [decide_eq_false c]; rfl
  have g4 : gI (sI (sJ T 917 352 0) 904 352 (nI de)) 904 352 = nI de := rd_eq _ _ _ _
  have z46 : mb b m de = 46 ↔ de < m ∧ b de = 46 := mb_eq h2 de (c := 46) (by omega)
  have h3 : MD (sI (sJ T 917 352 0) 904 352 (nI s)) b m := MD_sI h1 (f := 904) (by decide) 352 (nI s)
  have f3 : Frm [904, 914] [917] [] [] [] [] T (sI (sJ T 917 352 0) 904 352 (nI s)) := Fr_sI (Fr_sJ Fr_refl (by decide) _ _) (by decide) _ _
  have q4 : gI (sI (sJ T 917 352 0) 904 352 (nI s)) 904 352 = nI s := rd_eq _ _ _ _
  have q7 : gJ (sI (sJ T 917 352 0) 904 352 (nI s)) 917 352 = lN 0 := by rw [rj_I]; exact rj_eq _ _ _ _
  have q15 : gI (sI (sJ T 917 352 0) 904 352 (nI s)) 915 352 = nI s := by rw [rd_ne _ _ (Or.inl (by decide)), rd_J]; exact e15
  have Fd : ∀ {U : gk_S}, Frm [904, 914] [917] [] [] [] [] (sI (sJ T 917 352 0) 904 352 (nI s)) U → gI U 915 352 = nI s := fun f => (f.2.2.2.1 915 352 (by decide)).trans q15
  -- are all of the run digits?
  have alE : alD b (runE b m s - s) s = true ↔ de = runE b m s := by
    constructor
    · intro q
      have q' := (alD_iff b _ _).mp q
      rw [← hde]
      refine scn_eq _ _ _ _ (by omega) (by omega) (fun i i1 i2 => q' i i1 (by omega)) (fun q2 => ?_)
      exact (cA_f (rn (by omega))).2
    · intro q
      exact (alD_iff b _ _).mpr (fun i i1 i2 => din i i1 (by omega))
  have dle : de ≤ runE b m s := by
    rcases Nat.lt_or_ge (runE b m s) de with q | q
    · have := din (runE b m s) rg.1 q
      have := (cA_f (rn (by omega))).2
      simp_all
    · exact q
  unfold f_X12_readNumber
  rw [z_i352 h.1, qk_true, qv_eq, e4, qv_eq, r12, f_X12_readNumber_12, z_i352 h2.1, qk_true, qv_eq, g4, a, qc_some', v_dig h2, qc_some', c2, if_pos (show bI false = 0 from rfl), z_i352 h2.1, qk_true, qv_eq, g4, a, qc_some']
  unfold f_X12_readNumber_57
  have tq : tok b m s = (if alD b (runE b m s - s) s = true then
      (if runE b m s < m ∧ b (runE b m s) = 46 then (match adr b (adrE b m s - s) s s 0 0 with | some v => (3, v, adrE b m s) | none => (5, 0, adrE b m s))
      else if runE b m s - s ≤ 5 then (2, nv b (runE b m s - s) s 0, runE b m s) else (5, 0, runE b m s))
    else if alL b (runE b m s - s) s = true ∧ runE b m s - s ≤ 11 then (1, 0, runE b m s) else (5, 0, runE b m s)) := by
    unfold tok
    rw [if_neg (show ¬ m ≤ s by omega), if_pos hA]
    rfl
  have notL : ¬ alL b (runE b m s - s) s = true := by
    intro q
    have := (alL_iff b _ _).mp q s (Nat.le_refl _) (by omega)
    rw [cDL _ this] at hD
    exact absurd hD (by decide)
  by_cases c46 : de < m ∧ b de = 46
  · have eE : de = runE b m s := by
      rcases Nat.lt_or_ge de (runE b m s) with q | q
      · have := rin de (by omega) q
        have hx : cA (b de) = true := this
        rw [c46.2] at hx
        exact absurd hx (by decide)
      · omega
    rw [if_pos (z46.mpr c46), z_i352 h2.1, qk_true, qv_eq, sI_sI, if_neg one_ne]
    generalize sI (sJ T 917 352 0) 904 352 (nI s) = T1 at h3 f3 q4 q7 q15 Fd
    unfold f_X12_readAddress
    have h4 := MD_sJ h3 917 352 0
    have f4 := Fr_sJ f3 (f := 917) (by decide) 352 0
    obtain ⟨T', r, f, sp⟩ := v_ra14 (F := F) xg.2 (fun q => xE (by omega)) (adrE b m s - s) s F (sJ T1 917 352 0) s 0 0 h4 (by rw [rd_J]; exact q4) (rj_eq _ _ _ _) (by omega) (fun i i1 i2 => xin i i1 i2) (by omega) (Nat.le_refl _) (gg_s b s) (by omega) (by decide)
    rw [Nat.sub_self] at r
    have r' : f_X12_readAddress_14 F F 352 1 0 0 1 (sJ T1 917 352 0) = some ((), T') := r
    rw [z_i352 h3.1, qk_true, qv_eq, r', qc_some', tq, if_pos (alE.mpr eE), if_pos (by rw [← eE]; exact c46)]
    refine ⟨T', rfl, Fr_trans f4 f, ?_⟩
    have p15 : gI T' 915 352 = nI s := (f.2.2.2.1 915 352 (by decide)).trans (by rw [rd_J]; exact q15)
    rcases sp with ⟨w, aw, s1, s2, s3⟩ | ⟨aw, s1⟩
    · rw [aw]
      exact ⟨s1, p15, fun _ => s2, fun q => absurd q (show ¬ (3 : Nat) = 1 by decide), fun q => absurd q (show ¬ (3 : Nat) = 4 by decide), fun _ => s3⟩
    · rw [aw]
      exact ⟨s1, p15, fun q => absurd q (show ¬ (5 : Nat) < 5 by decide), fun q => absurd q (show ¬ (5 : Nat) = 1 by decide), fun q => absurd q (show ¬ (5 : Nat) = 4 by decide), fun q => absurd q (show ¬ ((5 : Nat) = 2 ∨ (5 : Nat) = 3) by decide)⟩
  · rw [if_neg (fun e => c46 (z46.mp e)), z_i352 h2.1, qk_true, qv_eq, sI_sI, if_pos rfl]
    generalize sI (sJ T 917 352 0) 904 352 (nI s) = T1 at h3 f3 q4 q7 q15 Fd
    obtain ⟨T', r, f, sp⟩ := r72 T1 true h3 q4 (by omega) (by omega) (Nat.le_refl _) (fun _ => by rw [Nat.sub_self]; exact q7) (by rw [Nat.sub_self]; rfl)
    have r' : f_X12_readNumber_72 F F 352 (nI s) 1 T1 = some ((), T') := r
    refine ⟨T', r', Fr_trans f3 f, ?_⟩
    have p15 := Fd f
    rw [tq]
    by_cases cd : alD b (runE b m s - s) s = true
    · have eE := alE.mp cd
      rw [if_pos cd, if_neg (by rw [← eE]; exact c46)]
      rw [cd, Bool.true_and] at sp
      by_cases c5 : runE b m s - s ≤ 5
      · rw [decide_eq_true c5, if_pos rfl] at sp
        rw [if_pos c5]
        exact ⟨sp.1, p15, fun _ => sp.2.1, fun q => absurd q (show ¬ (2 : Nat) = 1 by decide), fun q => absurd q (show ¬ (2 : Nat) = 4 by decide), fun _ => sp.2.2⟩
      · rw [decide_eq_false c5, if_neg (by decide)] at sp
        rw [if_neg c5]
        exact ⟨sp, p15, fun q => absurd q (show ¬ (5 : Nat) < 5 by decide), fun q => absurd q (show ¬ (5 : Nat) = 1 by decide), fun q => absurd q (show ¬ (5 : Nat) = 4 by decide), fun q => absurd q (show ¬ ((5 : Nat) = 2 ∨ (5 : Nat) = 3) by decide)⟩
    · rw [if_neg cd, if_neg (fun q => notL q.1)]
      rw [Bool.eq_false_iff.mpr cd, Bool.false_and, if_neg (by decide)] at sp
      exact ⟨sp, p15, fun q => absurd q (show ¬ (5 : Nat) < 5 by decide), fun q => absurd q (show ¬ (5 : Nat) = 1 by decide), fun q => absurd q (show ¬ (5 : Nat) = 4 by decide), fun q => absurd q (show ¬ ((5 : Nat) = 2 ∨ (5 : Nat) = 3) by decide)⟩
theorem v_ws (hm : m ≤ 2100) : ∀ d p fu (T : gk_S), MD T b m → gI T 904 352 = nI p → p + d = m → d < fu → f_X12_next_0 F fu 352 T = f_X12_next_0 F 1 352 (sI T 904 352 (nI (scn (fun i => sp (b i)) d p))) := by
  have last : ∀ p fu (T : gk_S), MD T b m → gI T 904 352 = nI p → p ≤ m → (p < m → sp (b p) = false) → f_X12_next_0 F (fu + 1) 352 T = f_X12_next_0 F 1 352 T := by
    intro p fu T h e4 hp hA
    have a := v_bat (F := F) h (show p < 2 ^ 31 by omega)
    have z32 : ¬ mb b m p = 32 := fun e => by
      have := (mb_eq h p (c := 32) (by omega)).mp e
      have q := of_decide_eq_false (hA this.1)
      omega
    have z10 : ¬ mb b m p = 10 := fun e => by
      have := (mb_eq h p (c := 10) (by omega)).mp e
      have q := of_decide_eq_false (hA this.1)
      omega
    simp only [f_X12_next_0, qk_true, qk_false, qv_eq, qP_some', qP_none, qc_some', qc_none, qx_inl', qx_inr', qh_inl', qh_inr', z_i352 h.1, e4, a, z32, z10, if_false]
  intro d
  induction d with
  | zero =>
    intro p fu T h e4 h1 h2
    obtain ⟨fu, rfl⟩ : ∃ q, fu = q + 1 := ⟨fu - 1, by omega⟩
    rw [last p fu T h e4 (by omega) (fun q => by omega), scn, sI_id T 904 352 e4]
  | succ d ih =>
    intro p fu T h e4 h1 h2
    obtain ⟨fu, rfl⟩ : ∃ q, fu = q + 1 := ⟨fu - 1, by omega⟩
    rw [scn]
    cases hA : sp (b p)
    · rw [last p fu T h e4 (by omega) (fun _ => hA), if_neg (by decide), sI_id T 904 352 e4]
    · have a := v_bat (F := F) h (show p < 2 ^ 31 by omega)
      have z32 : mb b m p = 32 ↔ p < m ∧ b p = 32 := mb_eq h p (c := 32) (by omega)
      have z10 : mb b m p = 10 ↔ p < m ∧ b p = 10 := mb_eq h p (c := 10) (by omega)
      have hs := of_decide_eq_true hA
      have go : f_X12_next_26 F (f_X12_next_0 F fu) 352 T = f_X12_next_0 F 1 352 (sI T 904 352 (nI (scn (fun i => sp (b i)) d (p + 1)))) := by
        unfold f_X12_next_26
        rw [z_i352 h.1, qk_true, qv_eq, e4, qv_eq, nI_1, ih (p + 1) fu _ (MD_sI h (by decide) _ _) (rd_eq _ _ _ _) (by omega) (by omega), sI_sI]
      rw [if_pos rfl, f_X12_next_0, z_i352 h.1, qk_true, qv_eq, e4, a, qc_some', go]
      by_cases c : b p = 32
      · rw [if_pos (z32.mpr ⟨by omega, c⟩)]
      · rw [if_neg (fun e => c (z32.mp e).2), z_i352 h.1, qk_true, qv_eq, e4, a, qc_some', if_pos (z10.mpr ⟨by omega, by omega⟩), go]
theorem v_next (hF : 16400 ≤ F) {p : Nat} (h : MD S b m) (e4 : gI S 904 352 = nI p) (hp : p ≤ m) : ∃ T, f_X12_next F S 352 = some ((), T) ∧ Frm [904, 914, 915, 916] [917] [] [] [] [] S T ∧ MTk T b (wsE b m p) (tok b m (wsE b m p)) := by
  have m2 := h.2.2.1
  have k := v_ws (F := F) m2 (m - p) p F S h e4 (by omega) (by omega)
  rw [show scn (fun i => sp (b i)) (m - p) p = wsE b m p from rfl] at k
  have wl := ws_le b hp
  have wn := scn_no (fun i => sp (b i)) (m - p) p
  rw [show scn (fun i => sp (b i)) (m - p) p = wsE b m p from rfl] at wn
  generalize wsE b m p = s at k wl wn
  have h1 := MD_sI h (f := 904) (by decide) 352 (nI s)
  have g4 : gI (sI S 904 352 (nI s)) 904 352 = nI s := rd_eq _ _ _ _
  have h2 := MD_sI h1 (f := 915) (by decide) 352 (nI s)
  have f2 : Frm [904, 914, 915, 916] [917] [] [] [] [] S (sI (sI S 904 352 (nI s)) 915 352 (nI s)) := Fr_sI (Fr_sI Fr_refl (by decide) _ _) (by decide) _ _
  have q4 : gI (sI (sI S 904 352 (nI s)) 915 352 (nI s)) 904 352 = nI s := by rw [rd_ne _ _ (Or.inl (by decide))]; exact g4
  have q15 : gI (sI (sI S 904 352 (nI s)) 915 352 (nI s)) 915 352 = nI s := rd_eq _ _ _ _
  have a1 := v_bat (F := F) h1 (show s < 2 ^ 31 by omega)
  have a2 := v_bat (F := F) h2 (show s < 2 ^ 31 by omega)
  have n32 : ¬ mb b m s = 32 := fun e => by
    have := (mb_eq h1 s (c := 32) (by omega)).mp e
    have q := of_decide_eq_false (wn (by omega))
    omega
  have n10 : ¬ mb b m s = 10 := fun e => by
    have := (mb_eq h1 s (c := 10) (by omega)).mp e
    have q := of_decide_eq_false (wn (by omega))
    omega
  unfold f_X12_next
  rw [k, f_X12_next_0, z_i352 h1.1, qk_true, qv_eq, g4, a1, qc_some', if_neg n32, z_i352 h1.1, qk_true, qv_eq, g4, a1, qc_some', if_neg n10, z_i352 h1.1, qk_true, qv_eq, g4, qv_eq]
  generalize sI (sI S 904 352 (nI s)) 915 352 (nI s) = T1 at h2 f2 q4 q15 a2
  rw [qv_eq, q4, a2, qc_some']
  by_cases c : s < m
  · have bs := MD_b h s
    have am : mb b m s = nI (b s) := by unfold mb; rw [if_pos c]
    have pm : decide (s < m) = true := decide_eq_true c
    rw [if_pos (show 0 ≤ mb b m s by rw [am]; exact nI_le (a := 0) (by omega) (by omega)), v_sml h2, qc_some', pm, Bool.true_and]
    cases hL : cL (b s)
    · rw [if_pos (show bI false = 0 from rfl), v_dig h2, qc_some', pm, Bool.true_and]
      cases hD : cD (b s)
      · have hA : ¬ cA (b s) = true := by unfold cA; rw [hL, hD]; decide
        have tq : tok b m s = if cS4 (b s) = true then (4, b s, s + 1) else (5, 0, s + 1) := by
          unfold tok
          rw [if_neg (show ¬ m ≤ s by omega), if_neg hA]
        have fin : ∀ x : Nat, ∃ T, f_X12_next_126 F 352 (nI (b s)) (nI x) 352 T1 = some ((), T) ∧ Frm [904, 914, 915, 916] [917] [] [] [] [] S T ∧ gI T 914 352 = nI x ∧ gI T 915 352 = nI s ∧ gI T 904 352 = nI (s + 1) ∧ gI T 916 352 = nI (b s) := by
          intro x
          unfold f_X12_next_126
          rw [z_i352 h2.1, qk_true, qv_eq, z_i352 (Sh_sI h2.1 _ _ _), qk_true, qv_eq, qv_eq, rd_ne _ _ (Or.inl (by decide)), rd_ne _ _ (Or.inl (by decide)), q4, qv_eq, nI_1]
          refine ⟨_, rfl, Fr_sI (Fr_sI (Fr_sI f2 (by decide) _ _) (by decide) _ _) (by decide) _ _, ?_, ?_, rd_eq _ _ _ _, ?_⟩
          · rw [rd_ne _ _ (Or.inl (by decide)), rd_ne _ _ (Or.inl (by decide))]; exact rd_eq _ _ _ _
          · rw [rd_ne _ _ (Or.inl (by decide)), rd_ne _ _ (Or.inl (by decide)), rd_ne _ _ (Or.inl (by decide))]; exact q15
          · rw [rd_ne _ _ (Or.inl (by decide))]; exact rd_eq _ _ _ _
        have z1 : nI (b s) = 59 ↔ b s = 59 := nI_eq (b := 59) (by omega) (by omega)
        have z2 : nI (b s) = 44 ↔ b s = 44 := nI_eq (b := 44) (by omega) (by omega)
        have z3 : nI (b s) = 45 ↔ b s = 45 := nI_eq (b := 45) (by omega) (by omega)
        have z4 : nI (b s) = 47 ↔ b s = 47 := nI_eq (b := 47) (by omega) (by omega)
        have yes : cS4 (b s) = true → ∃ T, f_X12_next_126 F 352 (nI (b s)) 4 352 T1 = some ((), T) ∧ Frm [904, 914, 915, 916] [917] [] [] [] [] S T ∧ MTk T b s (tok b m s) := by
          intro q
          obtain ⟨T, r, f, s1, s2, s3, s4⟩ := fin 4
          refine ⟨T, r, f, ?_⟩
          rw [tq, if_pos q]
          exact ⟨s1, s2, fun _ => s3, fun q => absurd q (show ¬ (4 : Nat) = 1 by decide), fun _ => s4, fun q => absurd q (show ¬ ((4 : Nat) = 2 ∨ (4 : Nat) = 3) by decide)⟩
        rw [if_pos (show bI false = 0 from rfl), am]
        by_cases c1 : b s = 59
        · rw [if_pos (z1.mpr c1)]; exact yes (decide_eq_true (by omega))
        rw [if_neg (fun e => c1 (z1.mp e))]
        by_cases c2 : b s = 44
        · rw [if_pos (z2.mpr c2)]; exact yes (decide_eq_true (by omega))
        rw [if_neg (fun e => c2 (z2.mp e))]
        by_cases c3 : b s = 45
        · rw [if_pos (z3.mpr c3)]; exact yes (decide_eq_true (by omega))
        rw [if_neg (fun e => c3 (z3.mp e))]
        by_cases c4 : b s = 47
        · rw [if_pos (z4.mpr c4)]; exact yes (decide_eq_true (by omega))
        rw [if_neg (fun e => c4 (z4.mp e))]
        obtain ⟨T, r, f, s1, s2, s3, s4⟩ := fin 5
        refine ⟨T, r, f, ?_⟩
        rw [tq, if_neg (show ¬ cS4 (b s) = true by rw [show cS4 (b s) = false from decide_eq_false (by omega)]; decide)]
        exact ⟨s1, s2, fun _ => s3, fun q => absurd q (show ¬ (5 : Nat) = 1 by decide), fun q => absurd q (show ¬ (5 : Nat) = 4 by decide), fun q => absurd q (show ¬ ((5 : Nat) = 2 ∨ (5 : Nat) = 3) by decide)⟩
      · obtain ⟨T', r, f, sp⟩ := v_readNumber (F := F) hF h2 q4 q15 c hD
        rw [if_neg (show ¬ bI true = 0 by decide), z_i352 h2.1, qk_true, r, qc_some']
        exact ⟨T', rfl, Fr_trans f2 (Fr_mono f (by decide) (by decide) (by decide) (by decide) (by decide) (by decide)), sp⟩
    · obtain ⟨T', r, f, s1, s2, s3⟩ := v_readWord (F := F) hF h2 q4 c
      have hA : cA (b s) = true := by unfold cA; rw [hL, Bool.or_true]
      have hr := run_le b c hA
      have notD : ¬ alD b (runE b m s - s) s = true := by
        intro q
        have := (alD_iff b _ _).mp q s (Nat.le_refl _) (by omega)
        rw [cDL _ hL] at this
        exact absurd this (by decide)
      have tq : tok b m s = if alL b (runE b m s - s) s = true ∧ runE b m s - s ≤ 11 then (1, 0, runE b m s) else (5, 0, runE b m s) := by
        unfold tok
        rw [if_neg (show ¬ m ≤ s by omega), if_pos hA, if_neg notD]
      rw [if_neg (show ¬ bI true = 0 by decide), z_i352 h2.1, qk_true, r, qc_some']
      refine ⟨T', rfl, Fr_trans f2 (Fr_mono f (by decide) (by decide) (by decide) (by decide) (by decide) (by decide)), ?_⟩
      have p15 : gI T' 915 352 = nI s := (f.2.2.2.1 915 352 (by decide)).trans q15
      rw [tq]
      by_cases cw : alL b (runE b m s - s) s = true ∧ runE b m s - s ≤ 11
      · rw [if_pos cw] at s1 ⊢
        exact ⟨s1, p15, fun _ => s2, fun _ => s3, fun q => absurd q (show ¬ (1 : Nat) = 4 by decide), fun q => absurd q (show ¬ ((1 : Nat) = 2 ∨ (1 : Nat) = 3) by decide)⟩
      · rw [if_neg cw] at s1 ⊢
        exact ⟨s1, p15, fun _ => s2, fun q => absurd q (show ¬ (5 : Nat) = 1 by decide), fun q => absurd q (show ¬ (5 : Nat) = 4 by decide), fun q => absurd q (show ¬ ((5 : Nat) = 2 ∨ (5 : Nat) = 3) by decide)⟩
  · have am : mb b m s = -1 := by unfold mb; rw [if_neg c]
    have tq : tok b m s = (0, 0, s) := by
      unfold tok
      rw [if_pos (show m ≤ s by omega)]
    rw [am, if_neg (by decide), z_i352 h2.1, qk_true, qv_eq, tq]
    refine ⟨_, rfl, Fr_sI f2 (by decide) _ _, rd_eq _ _ _ _, ?_, fun _ => ?_, fun q => absurd q (show ¬ (0 : Nat) = 1 by decide), fun q => absurd q (show ¬ (0 : Nat) = 4 by decide), fun q => absurd q (show ¬ ((0 : Nat) = 2 ∨ (0 : Nat) = 3) by decide)⟩
    · rw [rd_ne _ _ (Or.inl (by decide))]; exact q15
    · rw [rd_ne _ _ (Or.inl (by decide))]; exact q4
end MTX
