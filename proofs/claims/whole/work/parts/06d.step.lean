/-! how long a connection lasts -/
def lf (pr ph an : Nat) : Nat := if pr = 6 then [10, 120, 60, 3600, 120, 30, 120, 10].getD ph 10 else if pr = 17 then (if an = 0 then 30 else 180) else if pr = 1 then 30 else 600
theorem lf_le (pr ph an : Nat) : lf pr ph an ≤ 3600 := by
  unfold lf
  by_cases h : pr = 6
  · rw [if_pos h]
    match ph with
    | 0 => decide
    | 1 => decide
    | 2 => decide
    | 3 => decide
    | 4 => decide
    | 5 => decide
    | 6 => decide
    | 7 => decide
    | n + 8 => show 10 ≤ 3600; decide
  · rw [if_neg h]
    repeat' split
    all_goals omega
theorem k_life {S : gk_S} {F ph : Nat} (h1 : 1 ≤ ph) (h7 : ph ≤ 7) : f_X4_lifetime F S (nI ph) = some (nI (lf 6 ph 0), S) := by
  have e : nI ph - 1 = nI (ph - 1) := by rw [show (1 : Int32) = nI 1 from rfl, pk_sub h1]
  simp only [f_X4_lifetime, show ¬ nI ph < 1 from nI_nlt (b := 1) h1 (by omega), if_false, show ¬ 7 < nI ph from nI_nlt (a := 7) h7 (by omega), e, inb_n (by omega : ph - 1 < 7) (by omega), qk_true, qk_false, qv_eq, qP_some', qP_none, qc_some', qc_none, qx_inl', qx_inr', qh_inl', qh_inr', nI_clamp (by omega : ph - 1 < 2 ^ 31)]
  have : ∀ ph, ph < 8 → 1 ≤ ph → gk_life (ph - 1) = nI (lf 6 ph 0) := by decide
  rw [this ph (by omega) h1]
theorem k_xlife {S : gk_S} (h : Sh S) {F q pr ph an : Nat} (q1 : 281 ≤ q) (q2 : q < 345) (g0 : gI S 0 q = nI pr) (g5 : gI S 5 q = nI ph) (g6 : gI S 6 q = nI an) (hp : pr < 256) (h5 : pr = 6 → 1 ≤ ph ∧ ph ≤ 7) (h6 : an < 2) : f_X0_lifetime F S q = some (nI (lf pr ph an), S) := by
  simp only [f_X0_lifetime, qk_true, qk_false, qv_eq, qP_some', qP_none, qc_some', qc_none, qx_inl', qx_inr', qh_inl', qh_inr', z_c h q1 q2, g0, g5, g6, show nI pr = 1 ↔ pr = 1 from nI_eq (b := 1) (by omega) (by omega), show nI pr = 6 ↔ pr = 6 from nI_eq (b := 6) (by omega) (by omega), show nI pr = 17 ↔ pr = 17 from nI_eq (b := 17) (by omega) (by omega), show nI an = 0 ↔ an = 0 from nI_eq (b := 0) (by omega) (by omega), lf]
  by_cases a1 : pr = 1
  · rw [if_pos a1, if_neg (show ¬ pr = 6 by omega), if_neg (show ¬ pr = 17 by omega), if_pos a1]; rfl
  rw [if_neg a1]
  by_cases a6 : pr = 6
  · have := h5 a6
    rw [if_pos a6, if_pos a6]
    simp only [k_life this.1 this.2, qk_true, qk_false, qv_eq, qP_some', qP_none, qc_some', qc_none, qx_inl', qx_inr', qh_inl', qh_inr']
    rfl
  rw [if_neg a6, if_neg a6]
  by_cases a17 : pr = 17
  · rw [if_pos a17, if_pos a17]
    by_cases a0 : an = 0
    · rw [if_pos a0, if_pos a0]; rfl
    · rw [if_neg a0, if_neg a0]; rfl
  · rw [if_neg a17, if_neg a17, if_neg a1]; rfl
theorem m_lasts {S : gk_S} {F pr ph an : Nat} (hp : pr < 256) (h5 : pr = 6 → 1 ≤ ph ∧ ph ≤ 7) (h6 : an < 2) : f_X12_lasts F S (nI pr) (nI ph) (nI an) = some (nI (lf pr ph an), S) := by
  simp only [f_X12_lasts, show nI pr = 1 ↔ pr = 1 from nI_eq (b := 1) (by omega) (by omega), show nI pr = 6 ↔ pr = 6 from nI_eq (b := 6) (by omega) (by omega), show nI pr = 17 ↔ pr = 17 from nI_eq (b := 17) (by omega) (by omega), show nI an = 0 ↔ an = 0 from nI_eq (b := 0) (by omega) (by omega), lf]
  by_cases a6 : pr = 6
  · have := h5 a6
    rw [if_pos a6, if_pos a6]
    have : ph = 1 ∨ ph = 2 ∨ ph = 3 ∨ ph = 4 ∨ ph = 5 ∨ ph = 6 ∨ ph = 7 := by omega
    rcases this with rfl | rfl | rfl | rfl | rfl | rfl | rfl <;> rfl
  rw [if_neg a6, if_neg a6]
  by_cases a17 : pr = 17
  · rw [if_pos a17, if_pos a17]
    by_cases a0 : an = 0
    · rw [if_pos a0, if_pos a0]; rfl
    · rw [if_neg a0, if_neg a0]; rfl
  rw [if_neg a17, if_neg a17]
  by_cases a1 : pr = 1
  · rw [if_pos a1, if_pos a1]; rfl
  · rw [if_neg a1, if_neg a1]; rfl
/-! a step -/
def bhc (c p : Nat → Nat) (sd : Nat) : Nat := bh (c 5) sd (c 7) (sgn (p 6))
def s5 (c p : Nat → Nat) (sd : Nat) : Nat := if c 0 = 6 then bhc c p sd else 0
def s6 (c p : Nat → Nat) (sd : Nat) : Nat := if c 0 = 6 ∧ bhc c p sd = 1 then 0 else if sd = 2 then 1 else c 6
def s7 (c p : Nat → Nat) (sd : Nat) : Nat := if c 0 = 6 ∧ bhc c p sd = 1 then 0 else if c 0 = 6 ∧ bhc c p sd = 4 ∧ c 5 ≠ 4 then sd else c 7
def stp (c p : Nat → Nat) (sd tm : Nat) : Nat → Nat := fun j => if j = 5 then s5 c p sd else if j = 6 then s6 c p sd else if j = 7 then s7 c p sd else if j = 8 then tm + lf (c 0) (s5 c p sd) (s6 c p sd) else c j
theorem WC_stp {c p : Nat → Nat} {sd tm : Nat} (w : WC c) (h1 : 1 ≤ sd) (h2 : sd ≤ 2) (ht : tm ≤ 1000000000) (hb : c 0 = 6 → bhc c p sd ≠ 0) : WC (stp c p sd tm) := by
  obtain ⟨w0, w1, w2, w3, w4, w6, w7, w8, w9, w10⟩ := w
  have l := lf_le (c 0) (s5 c p sd) (s6 c p sd)
  refine ⟨w0, w1, w2, w3, w4, ?_, ?_, ?_, ?_, ?_⟩
  · show s6 c p sd < 2
    unfold s6
    repeat' split
    all_goals omega
  · show s7 c p sd < 3
    unfold s7
    repeat' split
    all_goals omega
  · show tm + lf (c 0) (s5 c p sd) (s6 c p sd) < 2000000000
    omega
  · intro e
    have e0 : c 0 ≠ 6 := e
    show s5 c p sd = 0 ∧ s7 c p sd = 0
    unfold s5 s7
    rw [if_neg e0, if_neg (show ¬ (c 0 = 6 ∧ bhc c p sd = 1) from fun q => e0 q.1), if_neg (show ¬ (c 0 = 6 ∧ bhc c p sd = 4 ∧ c 5 ≠ 4) from fun q => e0 q.1)]
    exact ⟨rfl, (w9 e0).2⟩
  · intro e
    have e0 : c 0 = 6 := e
    have b0 := hb e0
    obtain ⟨v1, v2, v3, v4, v5⟩ := w10 e0
    have bl : bhc c p sd < 8 := bhT_lt _
    have tab := ph_tab3 (c 5) (by omega) sd (by omega) (c 7) (by omega) (sgn (p 6)) (sgn_lt _) ⟨v1, h1, fun q => by have := v4 q; omega⟩
    change (bhc c p sd = 4 → _) ∧ (bhc c p sd = 5 → _) ∧ (bhc c p sd = 2 ∨ bhc c p sd = 3 → _) ∧ (bhc c p sd = 1 → _) at tab
    obtain ⟨t1, t2, t3, t4⟩ := tab
    show 1 ≤ s5 c p sd ∧ s5 c p sd ≤ 7 ∧ (s5 c p sd ≤ 3 → s7 c p sd = 0) ∧ (s5 c p sd = 4 ∨ s5 c p sd = 5 → s7 c p sd = 1 ∨ s7 c p sd = 2) ∧ (s5 c p sd = 1 → s6 c p sd = 0)
    unfold s5 s6 s7
    rw [if_pos e0]
    by_cases q1 : bhc c p sd = 1
    · rw [if_pos (⟨e0, q1⟩ : c 0 = 6 ∧ bhc c p sd = 1), if_pos (⟨e0, q1⟩ : c 0 = 6 ∧ bhc c p sd = 1)]
      omega
    · rw [if_neg (show ¬ (c 0 = 6 ∧ bhc c p sd = 1) from fun q => q1 q.2), if_neg (show ¬ (c 0 = 6 ∧ bhc c p sd = 1) from fun q => q1 q.2)]
      by_cases q4 : bhc c p sd = 4 ∧ c 5 ≠ 4
      · rw [if_pos (⟨e0, q4⟩ : c 0 = 6 ∧ bhc c p sd = 4 ∧ c 5 ≠ 4)]
        omega
      · rw [if_neg (show ¬ (c 0 = 6 ∧ bhc c p sd = 4 ∧ c 5 ≠ 4) from fun q => q4 q.2)]
        omega
def stS (S : gk_S) (q : Nat) (c : Nat → Nat) : gk_S := sI (sI (sI (sI S 6 q (nI (c 6))) 7 q (nI (c 7))) 5 q (nI (c 5))) 8 q (nI (c 8))
theorem k_xstep {S : gk_S} (h : Sh S) {F q a sd : Nat} {c p : Nat → Nat} (q1 : 281 ≤ q) (q2 : q < 345) (cc : CC S q c) (wc : WC c) (pk : PK S a p) (h1 : 1 ≤ sd) (hs : sd ≤ 2) (hb : c 0 = 6 → bhc c p sd ≠ 0) : f_X0_step F S q a (nI sd) = some ((), sI (sI (sI S 6 q (nI (s6 c p sd))) 7 q (nI (s7 c p sd))) 5 q (nI (s5 c p sd))) := by
  have a6 := wc.2.2.2.2.2.1
  have bl : bhc c p sd < 8 := bhT_lt _
  have w5 : c 5 ≤ 7 := by
    by_cases e : c 0 = 6
    · exact (wc.2.2.2.2.2.2.2.2.2 e).2.1
    · rw [(wc.2.2.2.2.2.2.2.2.1 e).1]; omega
  have wb : f_X0_step F S q a (nI sd) = f_X0_step_25 F q (nI sd) (nI (s5 c p sd)) (nI (if sd = 2 then 1 else c 6)) q S := by
    have e5 : (if c 0 = 6 then neg0 (bh (c 5) sd (c 7) (sgn (p 6))) else 0) = nI (s5 c p sd) := by
      unfold s5
      by_cases e : c 0 = 6
      · rw [if_pos e, if_pos e]
        show (if bhc c p sd = 0 then _ else _) = _
        rw [if_neg (hb e)]
        rfl
      · rw [if_neg e, if_neg e]; rfl
    simp only [f_X0_step, qk_true, qk_false, qv_eq, qP_some', qP_none, qc_some', qc_none, qx_inl', qx_inr', qh_inl', qh_inr', z_c h q1 q2, k_phb h q1 q2 cc wc pk hs, e5, cc.2.2.2.2.2.2.1, show nI (c 6) = 0 ↔ c 6 = 0 from nI_eq (b := 0) (by omega) (by omega), show nI sd = 2 ↔ sd = 2 from nI_eq (b := 2) (by omega) (by omega)]
    by_cases z : c 6 = 0
    · rw [if_pos z]
      by_cases e2 : sd = 2
      · rw [if_pos e2, if_pos e2]; rfl
      · rw [if_neg e2, if_neg e2, z]; rfl
    · rw [if_neg z]
      by_cases e2 : sd = 2
      · rw [if_pos e2]; rfl
      · rw [if_neg e2, show c 6 = 1 by omega]; rfl
  rw [wb]
  have s5l : s5 c p sd < 8 := by
    unfold s5
    split <;> omega
  have zz : zb (nI (if sd = 2 then 1 else c 6)) = true := by
    by_cases e2 : sd = 2
    · rw [if_pos e2]; rfl
    · rw [if_neg e2]
      have : c 6 = 0 ∨ c 6 = 1 := by omega
      rcases this with e | e <;> rw [e] <;> rfl
  have g5 : ∀ v, gI (sI S 6 q v) 5 q = nI (c 5) := fun v => cc.2.2.2.2.2.1
  have g7 : ∀ v, sI (sI S 6 q v) 7 q (nI (c 7)) = sI S 6 q v := fun v => sI_id _ _ _ cc.2.2.2.2.2.2.2.1
  simp only [f_X0_step_25, qk_true, qk_false, qv_eq, qP_some', qP_none, qc_some', qc_none, qx_inl', qx_inr', qh_inl', qh_inr', z_c h q1 q2, zz, isb_sI, g5, sI_sI, show nI (s5 c p sd) = 1 ↔ s5 c p sd = 1 from nI_eq (b := 1) (by omega) (by omega), show nI (s5 c p sd) = 4 ↔ s5 c p sd = 4 from nI_eq (b := 4) (by omega) (by omega), show nI (c 5) = 4 ↔ c 5 = 4 from nI_eq (b := 4) (by omega) (by omega)]
  by_cases e0 : c 0 = 6
  · have e5 : s5 c p sd = bhc c p sd := by unfold s5; rw [if_pos e0]
    rw [e5]
    unfold s6 s7
    by_cases b1 : bhc c p sd = 1
    · rw [if_pos b1, if_pos (⟨e0, b1⟩ : c 0 = 6 ∧ bhc c p sd = 1), if_pos (⟨e0, b1⟩ : c 0 = 6 ∧ bhc c p sd = 1)]
      rfl
    · rw [if_neg b1, if_neg (show ¬ (c 0 = 6 ∧ bhc c p sd = 1) from fun q => b1 q.2), if_neg (show ¬ (c 0 = 6 ∧ bhc c p sd = 1) from fun q => b1 q.2)]
      by_cases b4 : bhc c p sd = 4
      · rw [if_pos b4]
        by_cases c4 : c 5 = 4
        · rw [if_pos c4, if_neg (show ¬ (c 0 = 6 ∧ bhc c p sd = 4 ∧ c 5 ≠ 4) from fun q => q.2.2 c4), g7]
        · rw [if_neg c4, if_pos (⟨e0, b4, c4⟩ : c 0 = 6 ∧ bhc c p sd = 4 ∧ c 5 ≠ 4)]
      · rw [if_neg b4, if_neg (show ¬ (c 0 = 6 ∧ bhc c p sd = 4 ∧ c 5 ≠ 4) from fun q => b4 q.2.1), g7]
  · have e5 : s5 c p sd = 0 := by unfold s5; rw [if_neg e0]
    rw [e5, if_neg (by omega), if_neg (by omega)]
    unfold s6 s7
    rw [if_neg (show ¬ (c 0 = 6 ∧ bhc c p sd = 1) from fun q => e0 q.1), if_neg (show ¬ (c 0 = 6 ∧ bhc c p sd = 1) from fun q => e0 q.1), if_neg (show ¬ (c 0 = 6 ∧ bhc c p sd = 4 ∧ c 5 ≠ 4) from fun q => e0 q.1), g7]
theorem k_step {S : gk_S} (h : Sh S) {F a k n tm : Nat} {Q : Nat → Nat} {C : Nat → Nat → Nat} {p : Nat → Nat} (ct : CT S Q C n) (pk : PK S a p) (hk : k < n) (h3 : gI S 603 279 = nI tm) (ht : tm ≤ 1000000000) (h1 : 1 ≤ sideN (C k) p) (hb : C k 0 = 6 → bhc (C k) p (sideN (C k) p) ≠ 0) : f_X8_step F S 279 a (nI k) = some ((), stS S (Q k) (stp (C k) p (sideN (C k) p) tm)) := by
  obtain ⟨t1, t2, t3, t4⟩ := ct
  have e3 := t3 k (by omega)
  have e4 := t4 k hk
  have sl := sideN_le (C k) p
  have wc := WC_stp (tm := tm) e4.1 h1 sl ht hb
  generalize hsd : sideN (C k) p = sd at *
  have xl := k_xlife (S := sI (sI (sI S 6 (Q k) (nI (s6 (C k) p sd))) 7 (Q k) (nI (s7 (C k) p sd))) 5 (Q k) (nI (s5 (C k) p sd))) (F := F) h e3.2.1 e3.2.2 (pr := C k 0) (ph := s5 (C k) p sd) (an := s6 (C k) p sd) e4.2.1 (by rw [gI_sI, if_pos ⟨rfl, rfl⟩]) (by rw [gI_sI, if_neg (fun e => absurd e.1 (by decide)), gI_sI, if_neg (fun e => absurd e.1 (by decide)), gI_sI, if_pos ⟨rfl, rfl⟩]) e4.1.1 (fun e => by have := wc.2.2.2.2.2.2.2.2.2 e; exact ⟨this.1, this.2.1⟩) wc.2.2.2.2.2.1
  have h3' : gI (sI (sI (sI S 6 (Q k) (nI (s6 (C k) p sd))) 7 (Q k) (nI (s7 (C k) p sd))) 5 (Q k) (nI (s5 (C k) p sd))) 603 279 = nI tm := h3
  have sdd := k_side (F := F) h e3.2.1 e3.2.2 e4.2 e4.1 pk
  rw [hsd] at sdd
  simp only [f_X8_step, qk_true, qk_false, qv_eq, qP_some', qP_none, qc_some', qc_none, qx_inl', qx_inr', qh_inl', qh_inr', z_i279 h, k_tat h (by omega : k < 64) e3.1, z_c h e3.2.1 e3.2.2, sdd, k_xstep h e3.2.1 e3.2.2 e4.2 e4.1 pk h1 sl hb, isb_sI, h3', xl, nI_add]
  rfl
