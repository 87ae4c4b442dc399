/-! the class reads tokens -/
def RD (T : gk_S) (b : Nat → Nat) (m : Nat) : Prop := Sh T ∧ gI T 101 1 = nI m ∧ m ≤ 2100 ∧ bt (xI T 2) = b
def cb (b : Nat → Nat) (m i : Nat) : Nat := if i < m then b i else 0
section CTK
variable {S T : gk_S} {F m : Nat} {b : Nat → Nat}
theorem RD_b (h : RD T b m) (i : Nat) : b i < 256 := by rw [← h.2.2.2]; exact bt_lt _ _
theorem RD_sI (h : RD T b m) {f : Nat} (hf : 101 ≠ f) (a : Nat) (v : Int32) : RD (sI T f a v) b m := ⟨Sh_sI h.1 _ _ _, by rw [rd_ne _ _ (Or.inl hf)]; exact h.2.1, h.2.2.1, h.2.2.2⟩
theorem RD_sJ (h : RD T b m) (f a : Nat) (v : Int64) : RD (sJ T f a v) b m := ⟨Sh_sJ h.1 _ _ _, by rw [rd_J]; exact h.2.1, h.2.2.1, h.2.2.2⟩
theorem RD_F {lI lJ lP rI' rJ' rP' : List Nat} (h : RD S b m) (f : Frm lI lJ lP rI' rJ' rP' S T) (hs : Sh T) (e1 : 101 ∉ lI) (e2 : 2 ∉ rI') : RD T b m := ⟨hs, (f.2.2.2.1 _ _ e1).trans h.2.1, h.2.2.1, by rw [f.2.2.2.2.2.2.1 _ e2]; exact h.2.2.2⟩
theorem cb_lt (h : RD T b m) (i : Nat) : cb b m i < 256 := by unfold cb; split; exact RD_b h i; omega
theorem k_rat (h : RD T b m) {j : Nat} (hj : j < 2 ^ 31) : f_X2_at F T 1 (nI j) = some (nI (cb b m j), T) := by
  have c := CO_of (tapeH h.1) h.2.2.1 (by omega) h.2.1
  unfold cb
  by_cases q : j < m
  · rw [c.1 F j q, if_pos q, h.2.2.2]
  · rw [c.2.1 F j (by omega) hj, if_neg q]
    rfl
theorem k_dig {c : Nat} (hc : c < 2 ^ 31) : f_X9_isDigit F T (nI c) = some (bI (cD c), T) := by
  have z1 : nI c < 48 ↔ c < 48 := nI_ltI (b := 48) hc (by omega)
  have z2 : 57 < nI c ↔ 57 < c := nI_ltI (a := 57) (by omega) hc
  unfold f_X9_isDigit cD
  by_cases q1 : c < 48
  · rw [if_pos (z1.mpr q1), decide_eq_false (by omega)]; rfl
  · by_cases q2 : 57 < c
    · rw [if_neg (fun e => q1 (z1.mp e)), if_pos (z2.mpr q2), decide_eq_false (by omega)]; rfl
    · rw [if_neg (fun e => q1 (z1.mp e)), if_neg (fun e => q2 (z2.mp e)), decide_eq_true (by omega)]; rfl
theorem k_lod {c : Nat} (hc : c < 2 ^ 31) : f_X9_isLetterOrDigit F T (nI c) = some (bI (cA c), T) := by
  have z1 : nI c < 97 ↔ c < 97 := nI_ltI (b := 97) hc (by omega)
  have z2 : 122 < nI c ↔ 122 < c := nI_ltI (a := 122) (by omega) hc
  unfold f_X9_isLetterOrDigit cA cL
  rw [k_dig hc, qc_some']
  cases e : cD c
  · rw [if_pos (show bI false = 0 from rfl), Bool.false_or]
    by_cases q1 : c < 97
    · rw [if_pos (z1.mpr q1), decide_eq_false (by omega)]; rfl
    · by_cases q2 : 122 < c
      · rw [if_neg (fun e => q1 (z1.mp e)), if_pos (z2.mpr q2), decide_eq_false (by omega)]; rfl
      · rw [if_neg (fun e => q1 (z1.mp e)), if_neg (fun e => q2 (z2.mp e)), decide_eq_true (by omega)]; rfl
  · rw [if_neg (show ¬ bI true = 0 by decide)]; rfl
theorem k_sgn {c : Nat} (hc : c < 2 ^ 31) : f_X9_isSign F T (nI c) = some (bI (cS4 c), T) := by
  have z1 : nI c = 59 ↔ c = 59 := nI_eq (b := 59) hc (by omega)
  have z2 : nI c = 44 ↔ c = 44 := nI_eq (b := 44) hc (by omega)
  have z3 : nI c = 45 ↔ c = 45 := nI_eq (b := 45) hc (by omega)
  have z4 : nI c = 47 ↔ c = 47 := nI_eq (b := 47) hc (by omega)
  unfold f_X9_isSign cS4
  by_cases q1 : c = 59
  · rw [if_pos (z1.mpr q1), decide_eq_true (by omega)]; rfl
  rw [if_neg (fun e => q1 (z1.mp e))]
  by_cases q2 : c = 44
  · rw [if_pos (z2.mpr q2), decide_eq_true (by omega)]; rfl
  rw [if_neg (fun e => q2 (z2.mp e))]
  by_cases q3 : c = 45
  · rw [if_pos (z3.mpr q3), decide_eq_true (by omega)]; rfl
  rw [if_neg (fun e => q3 (z3.mp e))]
  by_cases q4 : c = 47
  · rw [if_pos (z4.mpr q4), decide_eq_true (by omega)]; rfl
  rw [if_neg (fun e => q4 (z4.mp e)), decide_eq_false (by omega)]; rfl
theorem k_ws : ∀ d p fu (T : gk_S), RD T b m → gI T 704 256 = nI p → p + d = m → d < fu → f_X9_step_8 F fu 256 T = f_X9_step_67 F 256 (sI T 704 256 (nI (scn (fun i => sp (b i)) d p))) := by
  intro d
  induction d with
  | zero =>
    intro p fu T h e h1 h2
    have m2 := h.2.2.1
    obtain ⟨fu, rfl⟩ : ∃ q, fu = q + 1 := ⟨fu - 1, by omega⟩
    simp only [f_X9_step_8, qk_true, qk_false, qv_eq, qP_some', qP_none, qc_some', qc_none, qx_inl', qx_inr', qh_inl', qh_inr', z_i256 h.1, e, z_p700_256 h.1, z_i1 h.1, h.2.1, show nI m ≤ nI p from nI_le (by omega) (by omega), if_true]
    rw [scn, sI_id T 704 256 e]
  | succ d ih =>
    intro p fu T h e h1 h2
    have m2 := h.2.2.1
    obtain ⟨fu, rfl⟩ : ∃ q, fu = q + 1 := ⟨fu - 1, by omega⟩
    have bl := RD_b h p
    have a := k_rat (F := F) h (show p < 2 ^ 31 by omega)
    unfold cb at a
    rw [if_pos (show p < m by omega)] at a
    have z1 : nI (b p) = 10 ↔ b p = 10 := nI_eq (b := 10) (by omega) (by omega)
    have z2 : nI (b p) = 32 ↔ b p = 32 := nI_eq (b := 32) (by omega) (by omega)
    have go : f_X9_step_54 F (f_X9_step_8 F fu) 256 T = f_X9_step_67 F 256 (sI T 704 256 (nI (scn (fun i => sp (b i)) d (p + 1)))) := by
      unfold f_X9_step_54
      rw [z_i256 h.1, qk_true, qv_eq, e, qv_eq, nI_1, ih (p + 1) fu _ (RD_sI h (by decide) _ _) (rd_eq _ _ _ _) (by omega) (by omega), sI_sI]
    simp only [f_X9_step_8, qk_true, qk_false, qv_eq, qP_some', qP_none, qc_some', qc_none, qx_inl', qx_inr', qh_inl', qh_inr', z_i256 h.1, e, z_p700_256 h.1, z_i1 h.1, h.2.1, show ¬ nI m ≤ nI p from nI_ge (by omega) (by omega), if_false, a, z1, z2, go]
    rw [scn]
    unfold sp
    by_cases q1 : b p = 10
    · rw [if_pos q1, if_pos (decide_eq_true (Or.inl q1))]
    · rw [if_neg q1]
      by_cases q2 : b p = 32
      · rw [if_pos q2, if_pos (decide_eq_true (Or.inr q2))]
      · rw [if_neg q2, decide_eq_false (by omega), if_neg (by decide), sI_id T 704 256 e]
theorem k_run2 : ∀ d p fu (T : gk_S) c, RD T b m → gI T 705 256 = nI p → p + d = m → d < fu → f_X9_readRun_2 F fu 256 (nI c) T = f_X9_readRun_71 F 256 (nI (c + nod b (scn (fun i => cA (b i)) d p - p) p)) (sI T 705 256 (nI (scn (fun i => cA (b i)) d p))) := by
  intro d
  induction d with
  | zero =>
    intro p fu T c h e h1 h2
    have m2 := h.2.2.1
    obtain ⟨fu, rfl⟩ : ∃ q, fu = q + 1 := ⟨fu - 1, by omega⟩
    simp only [f_X9_readRun_2, qk_true, qk_false, qv_eq, qP_some', qP_none, qc_some', qc_none, qx_inl', qx_inr', qh_inl', qh_inr', z_i256 h.1, e, z_p700_256 h.1, z_i1 h.1, h.2.1, show nI m ≤ nI p from nI_le (by omega) (by omega), if_true]
    rw [scn, sI_id T 705 256 e, Nat.sub_self, nod, Nat.add_zero]
  | succ d ih =>
    intro p fu T c h e h1 h2
    have m2 := h.2.2.1
    obtain ⟨fu, rfl⟩ : ∃ q, fu = q + 1 := ⟨fu - 1, by omega⟩
    have bl := RD_b h p
    have a := k_rat (F := F) h (show p < 2 ^ 31 by omega)
    unfold cb at a
    rw [if_pos (show p < m by omega)] at a
    have g := scn_ge (fun i => cA (b i)) d (p + 1)
    have go : ∀ x, f_X9_readRun_56 F (f_X9_readRun_2 F fu) 256 (nI x) (nI c) T = f_X9_readRun_71 F 256 (nI (c + x + nod b (scn (fun i => cA (b i)) d (p + 1) - (p + 1)) (p + 1))) (sI T 705 256 (nI (scn (fun i => cA (b i)) d (p + 1)))) := by
      intro x
      unfold f_X9_readRun_56
      rw [z_i256 h.1, qk_true, qv_eq, e, qv_eq, nI_1, nI_add, ih (p + 1) fu _ _ (RD_sI h (by decide) _ _) (rd_eq _ _ _ _) (by omega) (by omega), sI_sI]
    have go0 := go 0
    have go1 := go 1
    simp only [show nI 0 = 0 from rfl, show nI 1 = 1 from rfl] at go0 go1
    simp only [f_X9_readRun_2, qk_true, qk_false, qv_eq, qP_some', qP_none, qc_some', qc_none, qx_inl', qx_inr', qh_inl', qh_inr', z_i256 h.1, e, z_p700_256 h.1, z_i1 h.1, h.2.1, show ¬ nI m ≤ nI p from nI_ge (by omega) (by omega), if_false, a, k_lod (show b p < 2 ^ 31 by omega), k_dig (show b p < 2 ^ 31 by omega), go0, go1]
    rw [scn]
    cases cA (b p)
    · rw [if_pos (show bI false = 0 from rfl), if_neg (by decide), sI_id T 705 256 e, Nat.sub_self, nod, Nat.add_zero]
    · rw [if_neg (show ¬ bI true = 0 by decide), if_pos rfl]
      rw [show scn (fun i => cA (b i)) d (p + 1) - p = (scn (fun i => cA (b i)) d (p + 1) - (p + 1)) + 1 by omega, nod]
      cases cD (b p)
      · rw [if_pos (show bI false = 0 from rfl), if_neg (by decide), Nat.add_assoc]
      · rw [if_neg (show ¬ bI true = 0 by decide), if_pos rfl, Nat.add_assoc]
theorem k_nb5 (h : RD T b m) : ∀ d p fu a, alD b d p = true → p + d ≤ m → d < fu → f_X9_numberBetween_5 F fu 256 (nI (p + d)) (nI a) (nI p) T = some (nI (nv b d p a), T) := by
  intro d
  have m2 := h.2.2.1
  induction d with
  | zero =>
    intro p fu a hD h1 h2
    obtain ⟨fu, rfl⟩ : ∃ q, fu = q + 1 := ⟨fu - 1, by omega⟩
    rw [f_X9_numberBetween_5, if_pos (nI_le (by omega) (by omega)), nv]
  | succ d ih =>
    intro p fu a hD h1 h2
    obtain ⟨fu, rfl⟩ : ∃ q, fu = q + 1 := ⟨fu - 1, by omega⟩
    rw [alD, Bool.and_eq_true] at hD
    have c := cD_r hD.1
    have t := k_rat (F := F) h (show p < 2 ^ 31 by omega)
    unfold cb at t
    rw [if_pos (show p < m by omega)] at t
    have e1 : nI a * 10 + nI (b p) - 48 = nI (a * 10 + b p - 48) := by
      rw [show (10 : Int32) = nI 10 from rfl, pk_mul, nI_add, show (48 : Int32) = nI 48 from rfl, pk_sub (by omega)]
    rw [f_X9_numberBetween_5, if_neg (nI_ge (by omega) (by omega)), z_i256 h.1, qk_true, z_p700_256 h.1, qP_some', z_i1 h.1, qk_true, t, qc_some', e1, nI_1, show p + (d + 1) = (p + 1) + d by omega, ih (p + 1) fu _ hD.2 (by omega) (by omega), nv]
theorem k_nb (h : RD T b m) (hF : 16400 ≤ F) {d p : Nat} (hD : alD b d p = true) (hm : p + d ≤ m) : f_X9_numberBetween F T 256 (nI p) (nI (p + d)) = some (nI (nv b d p 0), T) := by
  have := h.2.2.1
  exact k_nb5 h d p F 0 hD hm (by omega)
theorem k_gb16 (h : RD T b m) (hF : 16400 ≤ F) {gs k : Nat} (hk : gs ≤ k) (hm : k ≤ m) : ∀ d p fu, p + d = k → gs ≤ p → alD b (p - gs) gs = true → d < fu → f_X9_groupBetween_16 F fu 256 (nI gs) (nI k) (nI p) T = some (if alD b (k - gs) gs = true ∧ nv b (k - gs) gs 0 < 256 then nI (nv b (k - gs) gs 0) else -1, T) ∨ 2 ^ 31 ≤ nv b (k - gs) gs 0 := by
  intro d
  have m2 := h.2.2.1
  induction d with
  | zero =>
    intro p fu h1 h2 h3 h4
    obtain ⟨fu, rfl⟩ : ∃ q, fu = q + 1 := ⟨fu - 1, by omega⟩
    have e : p = k := by omega
    subst e
    by_cases c : nv b (p - gs) gs 0 < 2 ^ 31
    · left
      have n := k_nb (F := F) h hF h3 (by omega)
      rw [show gs + (p - gs) = p by omega] at n
      have z : 255 < nI (nv b (p - gs) gs 0) ↔ 255 < nv b (p - gs) gs 0 := nI_ltI (a := 255) (by omega) c
      rw [f_X9_groupBetween_16, if_pos (nI_le (Nat.le_refl _) (by omega)), z_i256 h.1, qk_true, n, qc_some']
      by_cases q : 255 < nv b (p - gs) gs 0
      · rw [if_pos (z.mpr q), if_neg (by omega)]
      · rw [if_neg (fun e => q (z.mp e)), if_pos ⟨h3, by omega⟩]
    · right; omega
  | succ d ih =>
    intro p fu h1 h2 h3 h4
    obtain ⟨fu, rfl⟩ : ∃ q, fu = q + 1 := ⟨fu - 1, by omega⟩
    have t := k_rat (F := F) h (show p < 2 ^ 31 by omega)
    unfold cb at t
    rw [if_pos (show p < m by omega)] at t
    have bl := RD_b h p
    rw [f_X9_groupBetween_16, if_neg (nI_ge (by omega) (by omega)), z_i256 h.1, qk_true, z_p700_256 h.1, qP_some', z_i1 h.1, qk_true, t, qc_some', k_dig (by omega), qc_some']
    cases c : cD (b p)
    · left
      rw [if_pos (show bI false = 0 from rfl), if_neg]
      intro e
      have := (alD_iff b _ _).mp e.1 p h2 (by omega)
      rw [c] at this
      exact absurd this (by decide)
    · rw [if_neg (show ¬ bI true = 0 by decide), nI_1]
      refine ih (p + 1) fu (by omega) (by omega) ?_ (by omega)
      rw [show p + 1 - gs = (p - gs) + 1 by omega, alD_snoc, h3, show gs + (p - gs) = p by omega, c]
      rfl
theorem k_gb (h : RD T b m) (hF : 16400 ≤ F) {gs k : Nat} (hm : k ≤ m) (hg : gs ≤ m + 1) : f_X9_groupBetween F T 256 (nI gs) (nI k) = some (if gs < k ∧ gg b gs k = true then nI (nv b (k - gs) gs 0) else -1, T) := by
  have m2 := h.2.2.1
  unfold f_X9_groupBetween
  by_cases c : k ≤ gs
  · rw [if_pos (nI_le c (by omega)), if_neg (by omega)]
  · rw [if_neg (nI_ge (by omega) (by omega)), pk_sub (by omega)]
    have z : nI (k - gs) ≤ 3 ↔ k - gs ≤ 3 := nI_leI (b := 3) (by omega) (by omega)
    unfold gg
    by_cases c3 : k - gs ≤ 3
    · rw [if_pos (z.mpr c3)]
      rcases k_gb16 (F := F) h hF (by omega : gs ≤ k) hm (k - gs) gs F (by omega) (Nat.le_refl _) (by rw [Nat.sub_self]; rfl) (by omega) with e | e
      · rw [e, decide_eq_true (show k ≤ gs + 3 by omega), Bool.true_and]
        by_cases q : alD b (k - gs) gs = true ∧ nv b (k - gs) gs 0 < 256
        · rw [if_pos q, if_pos ⟨by omega, by rw [q.1, decide_eq_true q.2]; rfl⟩]
        · rw [if_neg q, if_neg]
          intro w
          have w2 := w.2
          rw [Bool.and_eq_true, decide_eq_true_eq] at w2
          exact q w2
      · exfalso
        by_cases hd : alD b (k - gs) gs = true
        · have := nv_lt b (k - gs) gs 0 0 hd (by decide)
          have p3 : 10 ^ (0 + (k - gs)) ≤ 10 ^ 3 := Nat.pow_le_pow_right (by decide) (by omega)
          omega
        · have hb : ∀ d p a, d ≤ 3 → a < 1000000 → nv b d p a < 2 ^ 31 := by
            intro d
            have bl := RD_b h
            have c3 : ∀ p a, nv b 0 p a = a := fun _ _ => rfl
            intro p a hd ha
            have b0 := bl p
            have b1 := bl (p + 1)
            have b2 := bl (p + 1 + 1)
            have : d = 0 ∨ d = 1 ∨ d = 2 ∨ d = 3 := by omega
            rcases this with rfl | rfl | rfl | rfl
            · simp only [nv]; omega
            · simp only [nv]; omega
            · simp only [nv]; omega
            · simp only [nv]; omega
          have := hb (k - gs) gs 0 c3 (by omega)
          omega
    · rw [if_neg (fun e => c3 (z.mp e)), decide_eq_false (show ¬ k ≤ gs + 3 by omega), Bool.false_and, if_neg (fun e => absurd e.2 (by decide))]
end CTK
