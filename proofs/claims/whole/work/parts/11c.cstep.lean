/-! the class's step -/
theorem sJ_id (S : gk_S) (f a : Nat) {v : Int64} (h : gJ S f a = v) : sJ S f a v = S := congrArg (fun g => (gk_n S, gk_t S, gk_K S, gI S, g, gP S, gL S, xI S, xJ S, xP S) : _ → gk_S) (up2_id (gJ S) f a h)
theorem scn_skip (P : Nat → Bool) {d p q : Nat} (h1 : p ≤ q) (h2 : q ≤ p + d) (h3 : ∀ i, p ≤ i → i < q → P i = true) : scn P d p = scn P (p + d - q) q := by
  have g := scn_ge P (p + d - q) q
  refine scn_eq P d p _ (by omega) (by omega) ?_ ?_
  · intro i i1 i2
    by_cases c : i < q
    · exact h3 i i1 c
    · exact scn_in P _ q i (by omega) i2
  · intro h
    exact scn_no P _ q (by omega)
def kk (k v : Nat) : Int32 := if k = 4 then nI v else if k < 4 then nI (256 + k) else nI (255 + k)
def TS (T : gk_S) (t : Nat × Nat × Nat) : Prop := gI T 703 256 = kk t.1 t.2.1 ∧ (t.1 ≠ 5 → gI T 705 256 = nI t.2.2) ∧ (t.1 = 2 ∨ t.1 = 3 → gJ T 706 256 = lN t.2.1)
theorem nI_m1 : ∀ v, v < 256 → ¬ nI v = -1 := by decide +kernel
section CST
variable {S T : gk_S} {F m : Nat} {b : Nat → Nat}
theorem k_ra0 : ∀ d p fu (T : gk_S), RD T b m → gI T 705 256 = nI p → p + d = m → d < fu → f_X9_readAddress_0 F fu 256 T = f_X9_readAddress_60 F 256 (sI T 705 256 (nI (scn (fun i => cX (b i)) d p))) := by
  intro d
  induction d with
  | zero =>
    intro p fu T h e h1 h2
    have m2 := h.2.2.1
    obtain ⟨fu, rfl⟩ : ∃ q, fu = q + 1 := ⟨fu - 1, by omega⟩
    simp only [f_X9_readAddress_0, qk_true, qk_false, qv_eq, qP_some', qP_none, qc_some', qc_none, qx_inl', qx_inr', qh_inl', qh_inr', z_i256 h.1, e, z_p700_256 h.1, z_i1 h.1, h.2.1, show nI m ≤ nI p from nI_le (by omega) (by omega), if_true]
    rw [scn, sI_id T 705 256 e]
  | succ d ih =>
    intro p fu T h e h1 h2
    have m2 := h.2.2.1
    obtain ⟨fu, rfl⟩ : ∃ q, fu = q + 1 := ⟨fu - 1, by omega⟩
    have bl := RD_b h p
    have a := k_rat (F := F) h (show p < 2 ^ 31 by omega)
    unfold cb at a
    rw [if_pos (show p < m by omega)] at a
    have z1 : nI (b p) = 46 ↔ b p = 46 := nI_eq (b := 46) (by omega) (by omega)
    have go : f_X9_readAddress_47 F (f_X9_readAddress_0 F fu) 256 T = f_X9_readAddress_60 F 256 (sI T 705 256 (nI (scn (fun i => cX (b i)) d (p + 1)))) := by
      unfold f_X9_readAddress_47
      rw [z_i256 h.1, qk_true, qv_eq, e, qv_eq, nI_1, ih (p + 1) fu _ (RD_sI h (by decide) _ _) (rd_eq _ _ _ _) (by omega) (by omega), sI_sI]
    simp only [f_X9_readAddress_0, qk_true, qk_false, qv_eq, qP_some', qP_none, qc_some', qc_none, qx_inl', qx_inr', qh_inl', qh_inr', z_i256 h.1, e, z_p700_256 h.1, z_i1 h.1, h.2.1, show ¬ nI m ≤ nI p from nI_ge (by omega) (by omega), if_false, a, z1, k_lod (show b p < 2 ^ 31 by omega), go]
    rw [scn]
    unfold cX
    cases cA (b p)
    · rw [if_pos (show bI false = 0 from rfl), Bool.false_or]
      by_cases q : b p = 46
      · rw [if_pos q, if_pos (decide_eq_true q)]
      · rw [if_neg q, decide_eq_false q, if_neg (by decide), sI_id T 705 256 e]
    · rw [if_neg (show ¬ bI true = 0 by decide), Bool.true_or, if_pos rfl]
theorem k_ra79 (hF : 16400 ≤ F) {ea : Nat} (he : ea ≤ m) : ∀ d k fu (T : gk_S) n gs v, RD T b m → gI T 705 256 = nI ea → gJ T 706 256 = lN v → k + d = ea → gs ≤ k → n ≤ 4 → d + 1 < fu → (∃ w, adr b d k gs n v = some w ∧ f_X9_readAddress_79 F fu 256 (nI n) (nI gs) (nI k) T = some ((), sI (sJ T 706 256 (lN w)) 703 256 259)) ∨ (adr b d k gs n v = none ∧ ∃ x, f_X9_readAddress_79 F fu 256 (nI n) (nI gs) (nI k) T = some ((), sJ T 706 256 x)) := by
  intro d
  induction d with
  | zero =>
    intro k fu T n gs v h e5 e6 h1 h2 h3 h4
    have m2 := h.2.2.1
    obtain ⟨fu, rfl⟩ : ∃ q, fu = q + 1 + 1 := ⟨fu - 2, by omega⟩
    have ek : k = ea := by omega
    have zn : nI n = 4 ↔ n = 4 := nI_eq (b := 4) (by omega) (by omega)
    have zn1 : nI (n + 1) = 4 ↔ n + 1 = 4 := nI_eq (b := 4) (by omega) (by omega)
    have gb := k_gb (F := F) h hF (k := k) (gs := gs) (by omega) (by omega)
    rw [f_X9_readAddress_79, z_i256 h.1, qk_true, qv_eq, e5, if_neg (nI_nlt (by omega) (by omega)), qv_eq, if_pos (by rw [ek])]
    unfold f_X9_readAddress_108
    rw [z_i256 h.1, qk_true, gb, qc_some', adr]
    by_cases c : gs < k ∧ gg b gs k = true
    · have hv : nv b (k - gs) gs 0 < 256 := by
        have := c.2
        unfold gg at this
        simp only [Bool.and_eq_true, decide_eq_true_eq] at this
        exact this.2.2
      rw [if_pos c, if_neg (nI_m1 _ hv)]
      by_cases c4 : n = 4
      · right
        rw [if_pos (zn.mpr c4), if_neg (fun e => by omega)]
        exact ⟨rfl, gJ T 706 256, by rw [sJ_id T 706 256 rfl]⟩
      · rw [if_neg (fun e => c4 (zn.mp e)), if_pos ⟨c.1, c.2, by omega⟩, z_i256 h.1, qk_true, qv_eq, e6, qv_eq, nI_1, nI_1, nI_l (by omega), show (256 : Int64) = lN 256 from rfl, lN_mul, lN_add]
        have h' := RD_sJ h 706 256 (lN (v * 256 + nv b (k - gs) gs 0))
        rw [f_X9_readAddress_79, z_i256 h'.1, qk_true, qv_eq, rd_J, e5, if_pos (nI_lt (by omega) (by omega))]
        by_cases c5 : n + 1 = 4
        · left
          rw [if_pos (zn1.mpr c5), if_pos c5, qv_eq]
          exact ⟨_, rfl, rfl⟩
        · right
          rw [if_neg (fun e => c5 (zn1.mp e)), if_neg c5]
          exact ⟨rfl, _, rfl⟩
    · right
      rw [if_neg c, if_pos rfl, if_neg (fun e => c ⟨e.1, e.2.1⟩)]
      exact ⟨rfl, gJ T 706 256, by rw [sJ_id T 706 256 rfl]⟩
  | succ d ih =>
    intro k fu T n gs v h e5 e6 h1 h2 h3 h4
    have m2 := h.2.2.1
    obtain ⟨fu, rfl⟩ : ∃ q, fu = q + 1 := ⟨fu - 1, by omega⟩
    have bl := RD_b h k
    have a := k_rat (F := F) h (show k < 2 ^ 31 by omega)
    unfold cb at a
    rw [if_pos (show k < m by omega)] at a
    have z1 : nI (b k) = 46 ↔ b k = 46 := nI_eq (b := 46) (by omega) (by omega)
    have zn : nI n = 4 ↔ n = 4 := nI_eq (b := 4) (by omega) (by omega)
    have zk : ¬ nI k = nI ea := fun e => by have := (nI_eq (by omega) (by omega)).mp e; omega
    rw [f_X9_readAddress_79, z_i256 h.1, qk_true, qv_eq, e5, if_neg (nI_nlt (by omega) (by omega)), qv_eq, if_neg zk, z_p700_256 h.1, qP_some', z_i1 h.1, qk_true, a, qc_some', adr]
    by_cases q : b k = 46
    · rw [if_pos (z1.mpr q), if_pos q]
      have gb := k_gb (F := F) h hF (k := k) (gs := gs) (by omega) (by omega)
      unfold f_X9_readAddress_108
      rw [z_i256 h.1, qk_true, gb, qc_some']
      by_cases c : gs < k ∧ gg b gs k = true
      · have hv : nv b (k - gs) gs 0 < 256 := by
          have := c.2
          unfold gg at this
          simp only [Bool.and_eq_true, decide_eq_true_eq] at this
          exact this.2.2
        rw [if_pos c, if_neg (nI_m1 _ hv)]
        by_cases c4 : n = 4
        · right
          rw [if_pos (zn.mpr c4), if_neg (fun e => by omega)]
          exact ⟨rfl, gJ T 706 256, by rw [sJ_id T 706 256 rfl]⟩
        · rw [if_neg (fun e => c4 (zn.mp e)), if_pos ⟨c.1, c.2, by omega⟩, z_i256 h.1, qk_true, qv_eq, e6, qv_eq, nI_1, nI_1, nI_l (by omega), show (256 : Int64) = lN 256 from rfl, lN_mul, lN_add]
          have h' := RD_sJ h 706 256 (lN (v * 256 + nv b (k - gs) gs 0))
          have r := ih (k + 1) fu _ (n + 1) (k + 1) (v * 256 + nv b (k - gs) gs 0) h' (by rw [rd_J]; exact e5) (rj_eq _ _ _ _) (by omega) (Nat.le_refl _) (by omega) (by omega)
          simp only [sJ_sJ] at r
          exact r
      · right
        rw [if_neg c, if_pos rfl, if_neg (fun e => c ⟨e.1, e.2.1⟩)]
        exact ⟨rfl, gJ T 706 256, by rw [sJ_id T 706 256 rfl]⟩
    · rw [if_neg (fun e => q (z1.mp e)), if_neg q, nI_1]
      exact ih (k + 1) fu T n gs v h e5 e6 (by omega) (by omega) h3 (by omega)
theorem k_readRun (hF : 16400 ≤ F) {s : Nat} (h : RD T b m) (e4 : gI T 704 256 = nI s) (e5 : gI T 705 256 = nI s) (e6 : gJ T 706 256 = lN 0) (hs : s < m) (hA : cA (b s) = true) : ∃ T', f_X9_readRun F T 256 = some ((), T') ∧ Frm [703, 705] [706] [] [] [] [] T T' ∧ TS T' (tok b m s) := by
  have m2 := h.2.2.1
  have k := k_run2 (F := F) (m - s) s F T 0 h e5 (by omega) (by omega)
  have g := scn_ge (fun i => cA (b i)) (m - s) s
  have gin := scn_in (fun i => cA (b i)) (m - s) s
  have hrE : scn (fun i => cA (b i)) (m - s) s = runE b m s := rfl
  rw [hrE] at k g gin
  unfold tok
  rw [if_neg (show ¬ m ≤ s by omega), if_pos hA]
  generalize runE b m s = e at k g gin
  have h' := RD_sI h (f := 705) (by decide) 256 (nI e)
  have f1 : Frm [703, 705] [706] [] [] [] [] T (sI T 705 256 (nI e)) := Fr_sI Fr_refl (by decide) _ _
  have e4' : gI (sI T 705 256 (nI e)) 704 256 = nI s := by rw [rd_ne _ _ (Or.inl (by decide))]; exact e4
  have e5' : gI (sI T 705 256 (nI e)) 705 256 = nI e := rd_eq _ _ _ _
  have e6' : gJ (sI T 705 256 (nI e)) 706 256 = lN 0 := by rw [rj_I]; exact e6
  unfold f_X9_readRun
  rw [show (0 : Int32) = nI 0 from rfl, k, Nat.zero_add]
  generalize sI T 705 256 (nI e) = T1 at h' f1 e4' e5' e6'
  have a := k_rat (F := F) h' (show e < 2 ^ 31 by omega)
  have cl := cb_lt h' e
  have nl := nod_le b (e - s) s
  have n0 := nod_0 b (e - s) s
  have nd := nod_d b (e - s) s (fun i i1 i2 => gin i i1 (by omega))
  have z46 : nI (cb b m e) = 46 ↔ (e < m ∧ b e = 46) := by
    rw [show (46 : Int32) = nI 46 from rfl, nI_eq (by omega) (by omega)]
    unfold cb
    by_cases c : e < m
    · rw [if_pos c]; exact ⟨fun q => ⟨c, q⟩, fun q => q.2⟩
    · rw [if_neg c]; exact ⟨fun q => by omega, fun q => absurd q.1 c⟩
  have z0 : nI (nod b (e - s) s) = 0 ↔ nod b (e - s) s = 0 := nI_eq (b := 0) (by omega) (by omega)
  have zl : nI (nod b (e - s) s) = nI (e - s) ↔ nod b (e - s) s = e - s := nI_eq (by omega) (by omega)
  have z5 : 5 < nI (e - s) ↔ 5 < e - s := nI_ltI (a := 5) (by omega) (by omega)
  have z11 : 11 < nI (e - s) ↔ 11 < e - s := nI_ltI (a := 11) (by omega) (by omega)
  unfold f_X9_readRun_71
  rw [z_i256 h'.1, qk_true, qv_eq, qv_eq, e5', e4', pk_sub (by omega)]
  by_cases c0 : nod b (e - s) s = 0
  · have hD := n0.mp c0
    rw [if_pos (z0.mpr c0), z_p700_256 h'.1, qP_some', qv_eq, z_i1 h'.1, qk_true, a, qc_some', if_pos hD]
    by_cases c46 : e < m ∧ b e = 46
    · rw [if_pos (z46.mpr c46), if_pos c46, z_i256 h'.1, qk_true]
      have r0 := k_ra0 (F := F) (m - e) e F T1 h' e5' (by omega) (by omega)
      have sk := scn_skip (fun i => cX (b i)) (d := m - s) (p := s) (q := e) g.1 (by omega) (fun i i1 i2 => by
        have := gin i i1 i2
        show (cA (b i) || _) = true
        rw [show cA (b i) = true from this]
        rfl)
      rw [show s + (m - s) - e = m - e by omega] at sk
      rw [← sk] at r0
      have ge := scn_ge (fun i => cX (b i)) (m - s) s
      have hE : scn (fun i => cX (b i)) (m - s) s = adrE b m s := rfl
      rw [hE] at r0 ge
      generalize adrE b m s = ea at r0 ge
      have h2 := RD_sI h' (f := 705) (by decide) 256 (nI ea)
      have f2 : Frm [703, 705] [706] [] [] [] [] T (sI (sI T1 705 256 (nI ea)) 703 256 260) := Fr_sI (Fr_sI f1 (by decide) _ _) (by decide) _ _
      have h3 := RD_sI h2 (f := 703) (by decide) 256 260
      have q3 : gI (sI (sI T1 705 256 (nI ea)) 703 256 260) 703 256 = 260 := rd_eq _ _ _ _
      have q4 : gI (sI (sI T1 705 256 (nI ea)) 703 256 260) 704 256 = nI s := by rw [rd_ne _ _ (Or.inl (by decide)), rd_ne _ _ (Or.inl (by decide))]; exact e4'
      have q5 : gI (sI (sI T1 705 256 (nI ea)) 703 256 260) 705 256 = nI ea := by rw [rd_ne _ _ (Or.inl (by decide))]; exact rd_eq _ _ _ _
      have q6 : gJ (sI (sI T1 705 256 (nI ea)) 703 256 260) 706 256 = lN 0 := by rw [rj_I, rj_I]; exact e6'
      unfold f_X9_readAddress
      rw [r0]
      unfold f_X9_readAddress_60
      rw [z_i256 h2.1, qk_true, qv_eq, qv_eq, qv_eq]
      generalize sI (sI T1 705 256 (nI ea)) 703 256 260 = T2 at f2 h3 q3 q4 q5 q6
      rw [q4, show (0 : Int32) = nI 0 from rfl]
      rcases k_ra79 (F := F) hF (by omega : ea ≤ m) (ea - s) s F T2 0 s 0 h3 q5 q6 (by omega) (Nat.le_refl _) (by omega) (by omega) with ⟨w, aw, r⟩ | ⟨aw, x, r⟩
      · rw [r, qc_some', aw]
        refine ⟨_, rfl, Fr_sI (Fr_sJ f2 (by decide) _ _) (by decide) _ _, rd_eq _ _ _ _, fun _ => ?_, fun _ => ?_⟩
        · rw [rd_ne _ _ (Or.inl (by decide)), rd_J]; exact q5
        · rw [rj_I]; exact rj_eq _ _ _ _
      · rw [r, qc_some', aw]
        refine ⟨_, rfl, Fr_sJ f2 (by decide) _ _, ?_, fun q => absurd rfl q, fun q => absurd q (show ¬ ((5 : Nat) = 2 ∨ (5 : Nat) = 3) by decide)⟩
        rw [rd_J]; exact q3
    · rw [if_neg (fun q => c46 (z46.mp q)), if_neg c46]
      unfold f_X9_readRun_108 f_X9_readRun_127
      rw [if_pos (z0.mpr c0)]
      by_cases c5 : 5 < e - s
      · rw [if_pos (z5.mpr c5), z_i256 h'.1, qk_true, qv_eq, if_pos (z5.mpr c5), z_i256 (Sh_sI h'.1 _ _ _), qk_true, qv_eq, if_neg (by omega)]
        refine ⟨_, rfl, Fr_sJ (Fr_sI f1 (by decide) _ _) (by decide) _ _, ?_, fun q => absurd rfl q, fun q => absurd q (show ¬ ((5 : Nat) = 2 ∨ (5 : Nat) = 3) by decide)⟩
        rw [rd_J]; exact rd_eq _ _ _ _
      · have h3 := RD_sI h' (f := 703) (by decide) 256 258
        have nb := k_nb (F := F) h3 hF hD (by omega)
        rw [show s + (e - s) = e by omega] at nb
        have vb := nv_lt b (e - s) s 0 0 hD (by decide)
        have p5 : 10 ^ (0 + (e - s)) ≤ 10 ^ 5 := Nat.pow_le_pow_right (by decide) (by omega)
        have q4 : gI (sI T1 703 256 258) 704 256 = nI s := by rw [rd_ne _ _ (Or.inl (by decide))]; exact e4'
        have q5 : gI (sI T1 703 256 258) 705 256 = nI e := by rw [rd_ne _ _ (Or.inl (by decide))]; exact e5'
        rw [if_neg (fun q => c5 (z5.mp q)), z_i256 h'.1, qk_true, qv_eq, if_neg (fun q => c5 (z5.mp q)), z_i256 h3.1, qk_true, qv_eq, qv_eq, q4, q5, nb, qc_some', z_i256 h3.1, qk_true, qv_eq, if_pos (by omega), nI_l (by omega)]
        refine ⟨_, rfl, Fr_sJ (Fr_sI f1 (by decide) _ _) (by decide) _ _, ?_, fun _ => ?_, fun _ => rj_eq _ _ _ _⟩
        · rw [rd_J]; exact rd_eq _ _ _ _
        · rw [rd_J]; exact q5
  · have hD : ¬ alD b (e - s) s = true := fun q => c0 (n0.mpr q)
    rw [if_neg (fun q => c0 (z0.mp q)), if_neg hD]
    unfold f_X9_readRun_108
    rw [if_neg (fun q => c0 (z0.mp q))]
    by_cases cl' : nod b (e - s) s = e - s
    · rw [if_pos (zl.mpr cl')]
      by_cases c11 : 11 < e - s
      · rw [if_pos (z11.mpr c11), z_i256 h'.1, qk_true, qv_eq, if_neg (fun q => by omega)]
        exact ⟨_, rfl, Fr_sI f1 (by decide) _ _, rd_eq _ _ _ _, fun q => absurd rfl q, fun q => absurd q (show ¬ ((5 : Nat) = 2 ∨ (5 : Nat) = 3) by decide)⟩
      · rw [if_neg (fun q => c11 (z11.mp q)), z_i256 h'.1, qk_true, qv_eq, if_pos ⟨nd.mp cl', by omega⟩]
        refine ⟨_, rfl, Fr_sI f1 (by decide) _ _, rd_eq _ _ _ _, fun q => ?_, fun q => absurd q (show ¬ ((1 : Nat) = 2 ∨ (1 : Nat) = 3) by decide)⟩
        rw [rd_ne _ _ (Or.inl (by decide))]; exact e5'
    · rw [if_neg (fun q => cl' (zl.mp q)), z_i256 h'.1, qk_true, qv_eq, if_neg (fun q => cl' (nd.mpr q.1))]
      exact ⟨_, rfl, Fr_sI f1 (by decide) _ _, rd_eq _ _ _ _, fun q => absurd rfl q, fun q => absurd q (show ¬ ((5 : Nat) = 2 ∨ (5 : Nat) = 3) by decide)⟩
end CST
