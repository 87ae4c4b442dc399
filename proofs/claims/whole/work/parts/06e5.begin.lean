/-! which is needed least -/
def lnd (C : Nat → Nat → Nat) : Nat → Nat → Nat → Nat
  | 0, _, b => b
  | d + 1, k, b => lnd C d (k + 1) (if C k 6 = 0 ∧ (64 ≤ b ∨ C k 8 < C b 8) then k else b)
theorem lnd_lt (C : Nat → Nat → Nat) : ∀ d k b n, k + d = n → (b < n ∨ b = 64) → lnd C d k b < n ∨ lnd C d k b = 64 := by
  intro d
  induction d with
  | zero => intro k b n hk hb; exact hb
  | succ d ih =>
    intro k b n hk hb
    refine ih (k + 1) _ n (by omega) ?_
    split
    · omega
    · exact hb
theorem ix_m1 {b n : Nat} (hn : n < 2 ^ 31) : ix b n = -1 ↔ ¬ b < n := by
  unfold ix
  by_cases q : b < n
  · rw [if_pos q]
    constructor
    · intro e
      have := congrArg Int32.toInt e
      rw [nI_toInt (by omega)] at this
      have e1 : (-1 : Int32).toInt = -1 := rfl
      omega
    · intro e; exact absurd q e
  · rw [if_neg q]; exact ⟨fun _ => q, fun _ => rfl⟩
theorem ix_neg {b n : Nat} (hn : n < 2 ^ 31) : ix b n < 0 ↔ ¬ b < n := by
  unfold ix
  by_cases q : b < n
  · rw [if_pos q]; exact ⟨fun e => absurd e (nI_pos (by omega)), fun e => absurd q e⟩
  · rw [if_neg q]; exact ⟨fun _ => q, fun _ => by decide⟩
theorem ix_nn {b n : Nat} (hn : n < 2 ^ 31) : 0 ≤ ix b n ↔ b < n := by
  unfold ix
  by_cases q : b < n
  · rw [if_pos q]; exact ⟨fun _ => q, fun _ => nI_pos' (by omega)⟩
  · rw [if_neg q]; exact ⟨fun e => absurd e (by decide), fun e => absurd e q⟩
theorem ix_in {b n : Nat} (h : b < n) : ix b n = nI b := if_pos h
theorem ix_out {b n : Nat} (h : ¬ b < n) : ix b n = -1 := if_neg h
theorem k_least {S : gk_S} (h : Sh S) {F n : Nat} {Q : Nat → Nat} {C : Nat → Nat → Nat} (ct : CT S Q C n) : ∀ d k fu b, k + d = n → d < fu → (b < k ∨ b = 64) → f_X8_leastNeeded_4 F fu 279 (ix b 64) (nI k) S = some (ix (lnd C d k b) 64, S) := by
  obtain ⟨t1, t2, t3, t4⟩ := ct
  intro d
  induction d with
  | zero =>
    intro k fu b hk hfu hb
    obtain ⟨fu, rfl⟩ : ∃ q, fu = q + 1 := ⟨fu - 1, by omega⟩
    rw [f_X8_leastNeeded_4]
    simp only [qk_true, qk_false, qv_eq, qP_some', qP_none, qc_some', qc_none, qx_inl', qx_inr', qh_inl', qh_inr', z_i279 h, t2, show nI n ≤ nI k from nI_le (by omega) (by omega), if_true, lnd]
  | succ d ih =>
    intro k fu b hk hfu hb
    obtain ⟨fu, rfl⟩ : ∃ q, fu = q + 1 := ⟨fu - 1, by omega⟩
    have e3 := t3 k (by omega)
    have e4 := t4 k (by omega)
    have a6 := e4.1.2.2.2.2.2.1
    have a8 := e4.1.2.2.2.2.2.2.2.1
    rw [f_X8_leastNeeded_4]
    simp only [qk_true, qk_false, qv_eq, qP_some', qP_none, qc_some', qc_none, qx_inl', qx_inr', qh_inl', qh_inr', z_i279 h, t2, show ¬ nI n ≤ nI k from nI_ge (by omega) (by omega), if_false, show ¬ (64 : Int32) ≤ nI k from nI_ge (b := 64) (by omega) (by omega), z_p600_279 h, z_i280 h, z_l280 h, inb_n (by omega : k < 64) (by omega : 64 < 2 ^ 31), aP, nI_clamp (by omega : k < 2 ^ 31), e3.1, z_c h e3.2.1 e3.2.2, e4.2.2.2.2.2.2.2.1, e4.2.2.2.2.2.2.2.2.2, show nI (C k 6) = 0 ↔ C k 6 = 0 from nI_eq (b := 0) (by omega) (by omega), ix_m1 (by omega : 64 < 2 ^ 31), nI_1, lnd]
    have ihk := ih (k + 1) fu k (by omega) (by omega) (by omega)
    have ihb := ih (k + 1) fu b (by omega) (by omega) (by omega)
    rw [ix_in (show k < 64 by omega)] at ihk
    by_cases z6 : C k 6 = 0
    · rw [if_pos z6]
      by_cases b64 : b < 64
      · rw [if_neg (not_not_intro b64)]
        have f3 := t3 b (by omega)
        have f4 := t4 b (by omega)
        have f8 := f4.1.2.2.2.2.2.2.2.1
        rw [ix_in b64] at ihb ⊢
        simp only [k_tat h b64 f3.1, qk_true, qk_false, qv_eq, qP_some', qP_none, qc_some', qc_none, qx_inl', qx_inr', qh_inl', qh_inr', z_c h f3.2.1 f3.2.2, f4.2.2.2.2.2.2.2.2.2, show nI (C b 8) ≤ nI (C k 8) ↔ C b 8 ≤ C k 8 from nI_leI (by omega) (by omega)]
        by_cases q : C b 8 ≤ C k 8
        · rw [if_pos q, if_neg (show ¬ (C k 6 = 0 ∧ (64 ≤ b ∨ C k 8 < C b 8)) by omega)]
          exact ihb
        · rw [if_neg q, if_pos (show C k 6 = 0 ∧ (64 ≤ b ∨ C k 8 < C b 8) by omega)]
          exact ihk
      · rw [if_pos b64, if_pos (show C k 6 = 0 ∧ (64 ≤ b ∨ C k 8 < C b 8) by omega)]
        exact ihk
    · rw [if_neg z6, if_neg (show ¬ (C k 6 = 0 ∧ (64 ≤ b ∨ C k 8 < C b 8)) by omega)]
      exact ihb
theorem m_beg17 {S : gk_S} (h : Sh S) {F n : Nat} {C : Nat → Nat → Nat} (mt : MTb S C n) (x1 x2 x3 x4 x5 : Int32) : ∀ d k fu b, k + d = n → (b < k ∨ b = 64) → f_X12_begins_17 F (fu + d) 352 x1 x2 x3 x4 x5 (ix b 64) (nI k) S = f_X12_begins_17 F fu 352 x1 x2 x3 x4 x5 (ix (lnd C d k b) 64) (nI n) S := by
  obtain ⟨t1, t2, t3⟩ := mt
  intro d
  induction d with
  | zero =>
    intro k fu b hk hb
    rw [show k = n by omega]
    rfl
  | succ d ih =>
    intro k fu b hk hb
    have e4 := t3 k (by omega)
    have a6 := e4.1.2.2.2.2.2.1
    have a8 := e4.1.2.2.2.2.2.2.2.1
    have t6 := m_tel h e4.2 (j := 6) (by omega)
    have t8 := m_tel h e4.2 (j := 8) (by omega)
    rw [← Nat.add_assoc, f_X12_begins_17]
    simp only [qk_true, qk_false, qv_eq, qP_some', qP_none, qc_some', qc_none, qx_inl', qx_inr', qh_inl', qh_inr', z_i352 h, t2, show ¬ nI n ≤ nI k from nI_ge (by omega) (by omega), if_false, z_p931_352 h, z_i369 h, n9, show nI (9 * k) + 6 = nI (9 * k + 6) from n9j k 6, show nI (9 * k) + 8 = nI (9 * k + 8) from n9j k 8, t6.1, t6.2, t8.1, t8.2, show nI (C k 6) = 0 ↔ C k 6 = 0 from nI_eq (b := 0) (by omega) (by omega), ix_neg (by omega : 64 < 2 ^ 31), nI_1, lnd]
    have ihk := ih (k + 1) fu k (by omega) (by omega)
    have ihb := ih (k + 1) fu b (by omega) (by omega)
    rw [ix_in (show k < 64 by omega)] at ihk
    by_cases z6 : C k 6 = 0
    · rw [if_pos z6]
      by_cases b64 : b < 64
      · rw [if_neg (not_not_intro b64)]
        have f4 := t3 b (by omega)
        have f8 := f4.1.2.2.2.2.2.2.2.1
        have u8 := m_tel h f4.2 (j := 8) (by omega)
        rw [ix_in b64] at ihb ⊢
        simp only [n9, show nI (9 * b) + 8 = nI (9 * b + 8) from n9j b 8, u8.1, u8.2, qk_true, qk_false, qv_eq, qP_some', qP_none, qc_some', qc_none, qx_inl', qx_inr', qh_inl', qh_inr', show nI (C b 8) ≤ nI (C k 8) ↔ C b 8 ≤ C k 8 from nI_leI (by omega) (by omega)]
        by_cases q : C b 8 ≤ C k 8
        · rw [if_pos q, if_neg (show ¬ (C k 6 = 0 ∧ (64 ≤ b ∨ C k 8 < C b 8)) by omega)]
          exact ihb
        · rw [if_neg q, if_pos (show C k 6 = 0 ∧ (64 ≤ b ∨ C k 8 < C b 8) by omega)]
          exact ihk
      · rw [if_pos b64, if_pos (show C k 6 = 0 ∧ (64 ≤ b ∨ C k 8 < C b 8) by omega)]
        exact ihk
    · rw [if_neg z6, if_neg (show ¬ (C k 6 = 0 ∧ (64 ≤ b ∨ C k 8 < C b 8)) by omega)]
      exact ihb
