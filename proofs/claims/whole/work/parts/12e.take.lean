/-! the class takes values, states, policies -/
section TKV
variable {S T : gk_S} {F r m : Nat} {b : Nat → Nat} {A : AS} {t : Nat × Nat × Nat × Nat}
theorem TO_rg {T1 : gk_S} (hr : Ba r) (h : CB T r b m A) (hA : WA m A) (h6 : 6 ≤ A.w) (h9 : A.w ≤ 9) (eI : gI T1 = gI T) (dT : DF r T T1) (eX : xJ T1 = xJ T) {f lo hi x f' e : Nat} (hf : f < 6) (hx : x = 5 ∨ (x = 7 ∧ gJ T1 710 256 = lN f')) : TO T r b m (qc (f_X5_setRange F T1 (ru r A.L.n) (nI f) (lN lo) (lN hi)) fun _ S47 => qk (isb S47 256 7) <| qc (f_X9_go F S47 256 (nI x)) fun x52 S53 => some (x52, S53)) (.inr (x, e, A.n, A.t, f', upR A.L (sRg A.c f lo hi))) := by
  have hb := Ba_lt hr
  obtain ⟨c1, c2, c3, c4, c5, c6⟩ := h
  have n16 := hA.2.2.1
  obtain ⟨w1, w2, w3, w4⟩ := hA.2.2.2.2.2.1 (by omega)
  have u := ru_lt hr w1
  have cr := c6.2.2.2.2 (by omega : 5 ≤ A.w)
  have h1 := DF_RD dT hr c1
  have cr1 : CR T1 (ru r A.L.n) A.c := CR_c cr.1 ⟨by rw [eI], by rw [eI], by rw [eX], by rw [eX]⟩
  obtain ⟨T2, r1, r2, r3, r4, r5, r6⟩ := k_srg (F := F) h1.1 hr w1 cr1 (lo := lo) (hi' := hi) hf
  have h2 := DF_RD r2 hr h1
  rw [r1, qc_some', z_i256 h2.1, qk_true, k_go h2.1, qc_some']
  have g2 : ∀ f c, f ≠ 707 → gI (sI T2 707 256 (nI x)) f c = gI T f c := fun f c p => by rw [rd_ne _ _ (Or.inl p), r3, eI]
  refine ⟨_, DF_sI (DF_trans dT r2) (Or.inl (by omega)) _, g2 _ _ (by decide), g2 _ _ (by decide), Or.inr ⟨_, rfl, rfl, RD_sI h2 (by decide) _ _, rd_eq _ _ _ _, fun _ => (g2 _ _ (by decide)).trans (c3 (by omega)), fun _ _ => (g2 _ _ (by decide)).trans (c4 h6 h9), ?_, ?_⟩⟩
  · show 7 ≤ x → x ≤ 9 → gJ (sI T2 707 256 (nI x)) 710 256 = lN f'
    intro q1 q2
    rw [rj_I, r4]
    rcases hx with q | q
    · omega
    · exact q.2
  · refine LP_up c6 w1 (fun f c d x1 x2 => ?_) (fun c d1 d2 x1 x2 => ?_) ⟨?_, ?_⟩ _
    · rw [rd_ne _ _ (Or.inr (by omega)), r3, eI]
    · show xJ T2 c = xJ T c
      rw [r5 c d1 d2, eX]
    · exact CR_c r6 ⟨rd_ne _ _ (Or.inl (by decide)), rd_ne _ _ (Or.inl (by decide)), rfl, rfl⟩
    · exact (g2 _ _ (by decide)).trans cr.2
theorem k_adp (h : CB T r b m A) (h6 : 6 ≤ A.w) (h9 : A.w ≤ 9) (ht : A.t < 6) : f_X9_isAddressPart F T 256 = some (bI (decide (A.t = 2 ∨ A.t = 3)), T) := by
  have z2 : nI A.t = 2 ↔ A.t = 2 := nI_eq (b := 2) (by omega) (by omega)
  have z3 : nI A.t = 3 ↔ A.t = 3 := nI_eq (b := 3) (by omega) (by omega)
  unfold f_X9_isAddressPart
  rw [z_i256 h.1.1, qk_true, qv_eq, h.2.2.2.1 h6 h9]
  by_cases q2 : A.t = 2
  · rw [if_pos (z2.mpr q2), decide_eq_true (Or.inl q2)]; rfl
  · rw [if_neg (fun e => q2 (z2.mp e)), qv_eq]
    by_cases q3 : A.t = 3
    · rw [if_pos (z3.mpr q3), decide_eq_true (Or.inr q3)]; rfl
    · rw [if_neg (fun e => q3 (z3.mp e)), decide_eq_false (by omega)]; rfl
theorem k_isv (h : CB T r b m A) (h6 : 6 ≤ A.w) (h9 : A.w ≤ 9) (ht : A.t < 6) (c : CTk T t) (f : TF m t) : f_X9_isValue F T 256 = some (bI (decide (t.1 = if A.t = 2 ∨ A.t = 3 then 3 else 2)), T) := by
  have kq := kkL f
  unfold f_X9_isValue
  rw [z_i256 h.1.1, qk_true, qv_eq, c.1, k_adp h h6 h9 ht, qc_some']
  by_cases q : A.t = 2 ∨ A.t = 3
  · rw [decide_eq_true q, if_neg (show ¬ bI true = 0 by decide), if_pos q]
    by_cases p : t.1 = 3
    · rw [if_pos (kq.2.2.2.1.mpr p), decide_eq_true p]; rfl
    · rw [if_neg (fun e => p (kq.2.2.2.1.mp e)), decide_eq_false p]; rfl
  · rw [decide_eq_false q, if_pos (show bI false = 0 from rfl), if_neg q]
    by_cases p : t.1 = 2
    · rw [if_pos (kq.2.2.1.mpr p), decide_eq_true p]; rfl
    · rw [if_neg (fun e => p (kq.2.2.1.mp e)), decide_eq_false p]; rfl
theorem k_top (h : CB T r b m A) (h6 : 6 ≤ A.w) (h9 : A.w ≤ 9) (ht : A.t < 6) : f_X9_top F T 256 = some (lN (tp A.t), T) := by
  unfold f_X9_top
  rw [z_i256 h.1.1, qk_true, qv_eq, h.2.2.2.1 h6 h9, if_neg (nI_pos (by omega)), qv_eq, if_neg (show ¬ (6 : Int32) ≤ nI A.t from nI_ge (b := 6) ht (by omega)), qv_eq, inb_n (show A.t < 7 by omega) (by omega), qk_true, tops_eq _ ht]
theorem isV_lt (f : TF m t) {x : Nat} (q : t.1 = if x = 2 ∨ x = 3 then 3 else 2) : (t.1 = 2 ∨ t.1 = 3) ∧ t.2.1 < 4294967296 := by
  by_cases c : x = 2 ∨ x = 3
  · rw [if_pos c] at q; exact ⟨Or.inr q, f.2.2.2.2 q⟩
  · rw [if_neg c] at q; exact ⟨Or.inl q, by have := f.2.2.2.1 q; omega⟩
theorem k_takeValue (hF : 16400 ≤ F) (hr : Ba r) (h : CB T r b m A) (hA : WA m A) (h6 : A.w = 6) (c : CTk T t) (f : TF m t) : TO T r b m (f_X9_takeValue F T 256 (ru r A.L.n)) (tVal t.1 t.2.1 (wk b t) t.2.2.2 A) := by
  have kq := kkL f
  have hc := h
  obtain ⟨c1, c2, c3, c4, c5, c6⟩ := hc
  have ht := hA.2.2.2.2.2.2.1 (by omega) (by omega)
  obtain ⟨w1, w2, w3, w4⟩ := hA.2.2.2.2.2.1 (by omega)
  have tl := tp_lt A.t
  have z1 : nI A.t = 1 ↔ A.t = 1 := nI_eq (b := 1) (by omega) (by omega)
  have main : ¬ (A.t = 1 ∧ t.1 = 1) → TO T r b m (f_X9_takeValue_24 F 256 (ru r A.L.n) T) (tVal t.1 t.2.1 (wk b t) t.2.2.2 A) := by
    intro nq
    unfold f_X9_takeValue_24 tVal
    rw [if_neg nq, z_i256 c1.1, qk_true, k_isv h (by omega) (by omega) ht c f, qc_some']
    by_cases q : t.1 = if A.t = 2 ∨ A.t = 3 then 3 else 2
    · obtain ⟨k23, vl⟩ := isV_lt f q
      have zv : lN t.2.1 ≤ lN (tp A.t) ↔ t.2.1 ≤ tp A.t := l_le (by omega) (by omega)
      have ev := c.2.2.2 k23
      rw [decide_eq_true q, if_neg (show ¬ bI true = 0 by decide), if_pos q, z_i256 c1.1, qk_true, qv_eq, ev, k_top h (by omega) (by omega) ht, qc_some']
      by_cases qv : t.2.1 ≤ tp A.t
      · have h1 := RD_sJ c1 710 256 (lN t.2.1)
        have e9 : gI (sJ T 710 256 (lN t.2.1)) 709 256 = nI A.t := by rw [rd_J]; exact c4 (by omega) (by omega)
        have e6 : gJ (sJ T 710 256 (lN t.2.1)) 706 256 = lN t.2.1 := by rw [rj_ne _ _ (Or.inl (by decide))]; exact ev
        rw [if_pos (zv.mpr qv), if_pos qv, z_i256 c1.1, qk_true, qv_eq, ev, qv_eq, qv_eq, qv_eq, qv_eq, e9, e6, z_u h1.1 hr w1, qk_true]
        have k := TO_rg (T1 := sJ T 710 256 (lN t.2.1)) (F := F) (f := A.t) (lo := t.2.1) (hi := t.2.1) (x := 7) (f' := t.2.1) (e := t.2.2.2) hr h hA (by omega) (by omega) (funext fun _ => funext fun _ => rd_J _ _ _ _ _ _) (DF_sJ DF_refl (by omega) _ _) (by rfl) ht (Or.inr ⟨rfl, rj_eq _ _ _ _⟩)
        exact k
      · rw [if_neg (fun e => qv (zv.mp e)), if_neg qv]
        exact TO_f (κ := 3) (by omega) (by omega)
    · rw [decide_eq_false q, if_pos (show bI false = 0 from rfl), if_neg q]
      exact TO_f (κ := 2) (by omega) (by omega)
  unfold f_X9_takeValue
  rw [z_i256 c1.1, qk_true, qv_eq, c4 (by omega) (by omega)]
  by_cases q1 : A.t = 1
  · rw [if_pos (z1.mpr q1), qv_eq, c.1]
    by_cases qw : t.1 = 1
    · rw [if_pos (kq.2.1.mpr qw)]
      unfold f_X9_takeProtocol tVal
      rw [if_pos ⟨q1, qw⟩, z_i256 c1.1, qk_true, k_isw hF c1 c f (by omega) (by omega : 11 < 18) twrd.2.1, qc_some']
      have fin : ∀ x : Nat, x < 256 → pn (wk b t) = x → 11 ≤ wk b t ∧ wk b t < 14 → TO T r b m (qc (f_X9_takeProtocol_42 F 256 (ru r A.L.n) (nI x) T) fun x61 S62 => some (x61, S62)) (if 11 ≤ wk b t ∧ wk b t < 14 then .inr (5, t.2.2.2, A.n, A.t, A.f, upR A.L (sRg A.c 1 (pn (wk b t)) (pn (wk b t)))) else .inl 2) := by
        intro x hx e hw
        unfold f_X9_takeProtocol_42
        rw [if_pos hw, e, if_neg (nI_m1 x hx), z_u c1.1 hr w1, qk_true, nI_l (by omega)]
        have k := TO_rg (T1 := T) (F := F) (x := 5) (f' := A.f) (e := t.2.2.2) (lo := x) (hi := x) hr h hA (by omega) (by omega) rfl DF_refl rfl (f := 1) (by omega) (Or.inl rfl)
        obtain ⟨T', k1, k2, k3, k4⟩ := k
        refine ⟨T', k1, k2, k3, ?_⟩
        rcases k4 with ⟨κ, k5, -⟩ | ⟨A', k5, k6, k7⟩
        · exact absurd k5 (by simp)
        · refine Or.inr ⟨A', k5, ?_, k7⟩
          have k6' : (qc (f_X5_setRange F T (ru r A.L.n) 1 (lN x) (lN x)) fun x29 S30 => qk (isb S30 256 7) (qc (f_X9_go F S30 256 5) fun x35 S36 => some (x35, S36))) = some (0, T') := k6
          rw [k6', qc_some']
      by_cases p11 : wk b t = 11
      · rw [decide_eq_true p11, if_neg (show ¬ bI true = 0 by decide)]
        exact fin 6 (by omega) (by rw [p11]; rfl) (by omega)
      rw [decide_eq_false p11, if_pos (show bI false = 0 from rfl), z_i256 c1.1, qk_true, k_isw hF c1 c f (by omega) (by omega : 12 < 18) twrd.2.2.1, qc_some']
      by_cases p12 : wk b t = 12
      · rw [decide_eq_true p12, if_neg (show ¬ bI true = 0 by decide)]
        exact fin 17 (by omega) (by rw [p12]; rfl) (by omega)
      rw [decide_eq_false p12, if_pos (show bI false = 0 from rfl), z_i256 c1.1, qk_true, k_isw hF c1 c f (by omega) (by omega : 13 < 18) twrd.2.2.2.1, qc_some']
      by_cases p13 : wk b t = 13
      · rw [decide_eq_true p13, if_neg (show ¬ bI true = 0 by decide)]
        exact fin 1 (by omega) (by rw [p13]; rfl) (by omega)
      rw [decide_eq_false p13, if_pos (show bI false = 0 from rfl), if_neg (by omega)]
      unfold f_X9_takeProtocol_42
      rw [if_pos rfl, qc_some']
      exact TO_f (κ := 2) (by omega) (by omega)
    · rw [if_neg (fun e => qw (kq.2.1.mp e))]
      exact main (fun e => qw e.2)
  · rw [if_neg (fun e => q1 (z1.mp e))]
    exact main (fun e => q1 e.1)
theorem k_takeLast (hr : Ba r) (h : CB T r b m A) (hA : WA m A) (h8 : A.w = 8) (c : CTk T t) (f : TF m t) : TO T r b m (f_X9_takeLastValue F T 256 (ru r A.L.n)) (tLast t.1 t.2.1 t.2.2.2 A) := by
  have hc := h
  obtain ⟨c1, c2, c3, c4, c5, c6⟩ := hc
  have ht := hA.2.2.2.2.2.2.1 (by omega) (by omega)
  have hf := hA.2.2.2.2.2.2.2.1 (by omega) (by omega)
  obtain ⟨w1, w2, w3, w4⟩ := hA.2.2.2.2.2.1 (by omega)
  have tl := tp_lt A.t
  unfold f_X9_takeLastValue tLast
  rw [z_i256 c1.1, qk_true, k_isv h (by omega) (by omega) ht c f, qc_some']
  by_cases q : t.1 = if A.t = 2 ∨ A.t = 3 then 3 else 2
  · obtain ⟨k23, vl⟩ := isV_lt f q
    have ev := c.2.2.2 k23
    have ef := c5 (by omega) (by omega)
    have zv : lN t.2.1 ≤ lN (tp A.t) ↔ t.2.1 ≤ tp A.t := l_le (by omega) (by omega)
    have zf : lN t.2.1 < lN A.f ↔ t.2.1 < A.f := l_lt (by omega) (by omega)
    rw [decide_eq_true q, if_neg (show ¬ bI true = 0 by decide), if_pos q, z_i256 c1.1, qk_true, qv_eq, ev, qv_eq, ef]
    by_cases q1 : t.2.1 < A.f
    · rw [if_pos (zf.mpr q1), if_pos (Or.inl q1)]
      exact TO_f (κ := 3) (by omega) (by omega)
    · rw [if_neg (fun e => q1 (zf.mp e)), qv_eq, k_top h (by omega) (by omega) ht, qc_some']
      by_cases qv : t.2.1 ≤ tp A.t
      · rw [if_pos (zv.mpr qv), if_neg (by omega), z_i256 c1.1, qk_true, qv_eq, c4 (by omega) (by omega), qv_eq, ef, qv_eq, ev, z_u c1.1 hr w1, qk_true]
        have k := TO_rg (T1 := T) (F := F) (f := A.t) (lo := A.f) (hi := t.2.1) (x := 5) (f' := A.f) (e := t.2.2.2) hr h hA (by omega) (by omega) rfl DF_refl rfl ht (Or.inl rfl)
        exact k
      · rw [if_neg (fun e => qv (zv.mp e)), if_pos (by omega)]
        exact TO_f (κ := 3) (by omega) (by omega)
  · rw [decide_eq_false q, if_pos (show bI false = 0 from rfl), if_neg q]
    exact TO_f (κ := 2) (by omega) (by omega)
theorem k_takeBits (hr : Ba r) (h : CB T r b m A) (hA : WA m A) (h9 : A.w = 9) (c : CTk T t) (f : TF m t) : TO T r b m (f_X9_takeBits F T 256 (ru r A.L.n)) (tBits t.1 t.2.1 t.2.2.2 A) := by
  have kq := kkL f
  have hc := h
  obtain ⟨c1, c2, c3, c4, c5, c6⟩ := hc
  have ht := hA.2.2.2.2.2.2.1 (by omega) (by omega)
  have hf := hA.2.2.2.2.2.2.2.1 (by omega) (by omega)
  obtain ⟨w1, w2, w3, w4⟩ := hA.2.2.2.2.2.1 (by omega)
  have tl := tp_lt A.t
  unfold f_X9_takeBits tBits
  rw [z_i256 c1.1, qk_true, qv_eq, c.1]
  by_cases q : t.1 = 2
  · have vl := f.2.2.2.1 q
    have ev := c.2.2.2 (Or.inl q)
    have ef := c5 (by omega) (by omega)
    have zv : lN t.2.1 ≤ 32 ↔ t.2.1 ≤ 32 := l_le (b := 32) (by omega) (by omega)
    rw [if_pos (kq.2.2.1.mpr q), if_pos q, qv_eq, ev]
    by_cases qv : t.2.1 ≤ 32
    · have e1 : (32 : Int32) - nI t.2.1 = nI (32 - t.2.1) := by rw [show (32 : Int32) = nI 32 from rfl, pk_sub qv]
      have hp := Nat.two_pow_pos (32 - t.2.1)
      have e2 : lN (2 ^ (32 - t.2.1)) - 1 = lN (2 ^ (32 - t.2.1) - 1) := by rw [show (1 : Int64) = lN 1 from rfl, lN_sub (by omega)]
      rw [if_pos (zv.mpr qv), if_pos qv, qv_eq, qv_eq, lN_i, e1, shl1 _ (by omega), qv_eq, c4 (by omega) (by omega), qv_eq, ef, qv_eq, z_u c1.1 hr w1, qk_true, e2, l_mlo (by omega) (by omega), l_mhi (by omega)]
      have k := TO_rg (T1 := T) (F := F) (f := A.t) (lo := bLo A.f t.2.1) (hi := bHi A.f t.2.1) (x := 5) (f' := A.f) (e := t.2.2.2) hr h hA (by omega) (by omega) rfl DF_refl rfl ht (Or.inl rfl)
      exact k
    · rw [if_neg (fun e => qv (zv.mp e)), if_neg qv]
      exact TO_f (κ := 3) (by omega) (by omega)
  · rw [if_neg (fun e => q (kq.2.2.1.mp e)), if_neg q]
    exact TO_f (κ := 2) (by omega) (by omega)
theorem k_takeState (hF : 16400 ≤ F) (hr : Ba r) (h : CB T r b m A) (hA : WA m A) (h10 : A.w = 10) (c : CTk T t) (f : TF m t) : TO T r b m (f_X9_takeState F T 256 (ru r A.L.n)) (tState (wk b t) t.2.2.2 A) := by
  have hb := Ba_lt hr
  have hc := h
  obtain ⟨c1, c2, c3, c4, c5, c6⟩ := hc
  obtain ⟨w1, w2, w3, w4⟩ := hA.2.2.2.2.2.1 (by omega)
  have u := ru_lt hr w1
  have cr := c6.2.2.2.2 (by omega : 5 ≤ A.w)
  unfold f_X9_takeState tState
  rw [z_i256 c1.1, qk_true, k_sta hF c1 c f, qc_some']
  by_cases q : 14 ≤ wk b t ∧ wk b t < 18
  · have e2 : gI T 302 (ru r A.L.n) = nI A.c.s := cr.1.2.1
    have h1 := RD_sI c1 (f := 302) (by decide) (ru r A.L.n) (nI (A.c.s ||| 2 ^ (wk b t - 14)))
    rw [if_pos q, if_neg (nI_m1 _ (by omega)), if_pos q, z_u c1.1 hr w1, qk_true, qv_eq, e2, qv_eq, or4 _ w3.2.1 _ (by omega), z_i256 h1.1, qk_true, k_go h1.1, qc_some']
    refine ⟨_, DF_sI (DF_sI DF_refl (Or.inr (ru_in w1).1) _) (Or.inl (by omega)) _, ?_, ?_, Or.inr ⟨_, rfl, rfl, RD_sI h1 (by decide) _ _, rd_eq _ _ _ _, fun _ => ?_, fun _ q => absurd q (show ¬ 11 ≤ 9 by decide), fun _ q => absurd q (show ¬ 11 ≤ 9 by decide), ?_⟩⟩
    · rw [rd_ne _ _ (Or.inl (by decide)), rd_ne _ _ (Or.inl (by decide))]
    · rw [rd_ne _ _ (Or.inl (by decide)), rd_ne _ _ (Or.inl (by decide))]
    · rw [rd_ne _ _ (Or.inl (by decide)), rd_ne _ _ (Or.inl (by decide))]; exact c3 (by omega)
    · refine LP_up c6 w1 (fun f c d x1 x2 => ?_) (fun _ _ _ _ _ => by rfl) ⟨⟨?_, ?_, ?_⟩, ?_⟩ _
      · rw [rd_ne _ _ (Or.inr (by omega)), rd_ne _ _ (Or.inr d)]
      · rw [rd_ne _ _ (Or.inl (by decide)), rd_ne _ _ (Or.inl (by decide))]; exact cr.1.1
      · rw [rd_ne _ _ (Or.inl (by decide))]; exact rd_eq _ _ _ _
      · exact cr.1.2.2
      · rw [rd_ne _ _ (Or.inl (by decide)), rd_ne _ _ (Or.inl (by decide))]; exact cr.2
  · rw [if_neg q, if_pos rfl, if_neg q]
    exact TO_f (κ := 2) (by omega) (by omega)
theorem k_takePol (hF : 16400 ≤ F) (hr : Ba r) (h : CB T r b m A) (hA : WA m A) (c : CTk T t) (f : TF m t) : TO T r b m (f_X9_takePolicy F T 256 r) (if wk b t < 3 then .inr (3, t.2.2.2, A.n, A.t, A.f, (A.L.n, wk b t, A.L.r)) else .inl 2) := by
  have hb := Ba_lt hr
  have hc := h
  obtain ⟨c1, c2, c3, c4, c5, c6⟩ := hc
  unfold f_X9_takePolicy
  rw [z_i256 c1.1, qk_true, k_act hF c1 c f, qc_some']
  by_cases q : wk b t < 3
  · have h1 := RD_sI c1 (f := 402) (by decide) r (nI (wk b t))
    rw [if_pos q, if_neg (nI_m1 _ (by omega)), if_pos q, z_r c1.1 hr, qk_true, qv_eq, z_i256 h1.1, qk_true, k_go h1.1, qc_some']
    refine ⟨_, DF_sI (DF_sI DF_refl (Or.inr (by omega)) _) (Or.inl (by omega)) _, ?_, ?_, Or.inr ⟨_, rfl, rfl, RD_sI h1 (by decide) _ _, rd_eq _ _ _ _, fun q => absurd q (show ¬ 5 ≤ 3 by decide), fun q => absurd q (show ¬ 6 ≤ 3 by decide), fun q => absurd q (show ¬ 7 ≤ 3 by decide), ?_⟩⟩
    · rw [rd_ne _ _ (Or.inl (by decide)), rd_ne _ _ (Or.inl (by decide))]
    · rw [rd_ne _ _ (Or.inl (by decide)), rd_ne _ _ (Or.inl (by decide))]
    · obtain ⟨l1, l2, l3, l4, l5⟩ := c6
      have g1 : ∀ f c, f ≠ 402 → f ≠ 707 → gI (sI (sI T 402 r (nI (wk b t))) 707 256 3) f c = gI T f c := fun f c p1 p2 => by rw [rd_ne _ _ (Or.inl p2), rd_ne _ _ (Or.inl p1)]
      refine ⟨(g1 _ _ (by decide) (by decide)).trans l1, ?_, (g1 _ _ (by decide) (by decide)).trans l3, fun i hi => ?_, fun q => absurd q (show ¬ 5 ≤ 3 by decide)⟩
      · rw [rd_ne _ _ (Or.inl (by decide))]; exact rd_eq _ _ _ _
      · exact ⟨CR_c (l4 i hi).1 ⟨g1 _ _ (by decide) (by decide), g1 _ _ (by decide) (by decide), rfl, rfl⟩, (g1 _ _ (by decide) (by decide)).trans (l4 i hi).2⟩
  · rw [if_neg q, if_pos rfl, if_neg q]
    exact TO_f (κ := 2) (by omega) (by omega)
end TKV
