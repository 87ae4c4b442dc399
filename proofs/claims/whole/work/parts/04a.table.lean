/-! the table's rows -/
theorem rP_rP (S : gk_S) (a : Nat) (v w : Nat → Option Nat) : rP (rP S a v) a w = rP S a w := congrArg (fun g => (gk_n S, gk_t S, gk_K S, gI S, gJ S, gP S, gL S, xI S, xJ S, g) : _ → gk_S) (up1_up1 (xP S) a v w)
theorem rP_sI (S : gk_S) (f a b : Nat) (v : Int32) (g : Nat → Option Nat) : rP (sI S f a v) b g = sI (rP S b g) f a v := rfl
theorem rP_id (S : gk_S) (a : Nat) {v : Nat → Option Nat} (h : xP S a = v) : rP S a v = S := congrArg (fun g => (gk_n S, gk_t S, gk_K S, gI S, gJ S, gP S, gL S, xI S, xJ S, g) : _ → gk_S) (up1_id (xP S) a h)
def tb (S : gk_S) (P : Nat → Option Nat) (n : Nat) : gk_S := sI (rP S 280 P) 601 279 (nI n)
theorem tb_id {S : gk_S} {n : Nat} (h : gI S 601 279 = nI n) : S = tb S (xP S 280) n := by
  unfold tb
  rw [rP_id _ _ rfl, sI_id _ _ _ h]
theorem Sh_tb {S : gk_S} (h : Sh S) (P : Nat → Option Nat) (n : Nat) : Sh (tb S P n) := by
  obtain ⟨h1, h2, h3, h4, h5⟩ := h
  refine ⟨h1, h2, h3, fun k hk => ⟨(h4 k hk).1, fun i hi => ⟨?_, ((h4 k hk).2 i hi).2⟩⟩, fun i hi => ⟨?_, ?_⟩⟩
  · show xP (rP S 280 P) _ _ = _
    rw [xP_rP, if_neg (by omega)]
    exact ((h4 k hk).2 i hi).1
  · exact (h5 i hi).1
  · exact (h5 i hi).2
theorem xP_tb (S : gk_S) (P : Nat → Option Nat) (n : Nat) : xP (tb S P n) 280 = P := rfl
theorem gI_tb (S : gk_S) (P : Nat → Option Nat) (n : Nat) : gI (tb S P n) 601 279 = nI n := rfl
theorem wP_tb (S : gk_S) (P : Nat → Option Nat) (n : Nat) {j : Nat} (hj : j < 2 ^ 31) (b : Nat) : wP (tb S P n) 280 (nI j) b = tb S (va_up P j (some b)) n := by
  unfold wP tb
  rw [nI_clamp hj, rP_sI, rP_rP]
  rfl
theorem sI_tb (S : gk_S) (P : Nat → Option Nat) (n m : Nat) : sI (tb S P n) 601 279 (nI m) = tb S P m := by
  unfold tb
  rw [sI_sI]
theorem k_tat {S : gk_S} (h : Sh S) {F i b : Nat} (hi : i < 64) (e : xP S 280 i = some b) : f_X8_at F S 279 (nI i) = some (b, S) := by
  simp only [f_X8_at, qk_true, qk_false, qv_eq, qP_some', qP_none, qc_some', qc_none, qx_inl', qx_inr', qh_inl', qh_inr', z_i279 h, z_p600_279 h, z_i280 h, z_l280 h, show ¬ nI i < 0 from nI_pos (by omega), if_false, show ¬ (64 : Int32) ≤ nI i from nI_ge (b := 64) hi (by omega), inb_n hi (by omega : 64 < 2 ^ 31), aP, nI_clamp (by omega : i < 2 ^ 31), e]
theorem k_rem59 {S : gk_S} (h : Sh S) {P : Nat → Option Nat} {n g F : Nat} (hn : n < 64) (hg : 281 ≤ g ∧ g < 345) : f_X8_remove_59 F 279 g (tb S P (n + 1)) = some ((), tb S (va_up P n (some g)) n) := by
  have H : ∀ P n, Sh (tb S P n) := fun P n => Sh_tb h P n
  simp only [f_X8_remove_59, qk_true, qk_false, qv_eq, qP_some', qP_none, qc_some', qc_none, qx_inl', qx_inr', qh_inl', qh_inr', z_i279 (H _ _), gI_tb, nI_pred, sI_tb, show ¬ (64 : Int32) ≤ nI n from nI_ge (b := 64) hn (by omega), if_false, z_p600_279 (H _ _), z_i280 (H _ _), z_l280 (H _ _), z_c (H _ _) hg.1 hg.2, inb_n hn (by omega : 64 < 2 ^ 31), wP_tb S _ _ (by omega : n < 2 ^ 31)]
theorem k_rem21 {S : gk_S} (h : Sh S) {g F : Nat} (hg : 281 ≤ g ∧ g < 345) {n : Nat} (hn : n < 64) : ∀ (d j fu : Nat) (P : Nat → Option Nat), j + d = n → d < fu → (∀ i, i < 64 → ∃ b, P i = some b ∧ 281 ≤ b ∧ b < 345) → f_X8_remove_21 F fu 279 g (nI j) (tb S P (n + 1)) = some ((), tb S (fun i => if j ≤ i ∧ i < n then P (i + 1) else if i = n then some g else P i) n) := by
  intro d
  induction d with
  | zero =>
    intro j fu P hj hf hP
    obtain ⟨fu, rfl⟩ : ∃ q, fu = q + 1 := ⟨fu - 1, by omega⟩
    have H : ∀ P n, Sh (tb S P n) := fun P n => Sh_tb h P n
    have hjn : j = n := by omega
    subst hjn
    rw [f_X8_remove_21]
    simp only [qk_true, qk_false, qv_eq, qP_some', qP_none, qc_some', qc_none, qx_inl', qx_inr', qh_inl', qh_inr', z_i279 (H _ _), gI_tb, nI_1, show nI (j + 1) ≤ nI (j + 1) from nI_le (by omega) (by omega), if_true, k_rem59 h hn hg]
    congr 3
    funext i
    unfold va_up
    by_cases q : i = j
    · rw [if_pos q, if_neg (by omega)]
    · rw [if_neg q, if_neg (by omega)]
  | succ d ih =>
    intro j fu P hj hf hP
    obtain ⟨fu, rfl⟩ : ∃ q, fu = q + 1 := ⟨fu - 1, by omega⟩
    have H : ∀ P n, Sh (tb S P n) := fun P n => Sh_tb h P n
    obtain ⟨b, hb, hb1, hb2⟩ := hP (j + 1) (by omega)
    rw [f_X8_remove_21]
    simp only [qk_true, qk_false, qv_eq, qP_some', qP_none, qc_some', qc_none, qx_inl', qx_inr', qh_inl', qh_inr', z_i279 (H _ _), gI_tb, nI_1, show ¬ nI (n + 1) ≤ nI (j + 1) from nI_ge (by omega) (by omega), if_false, show ¬ (64 : Int32) ≤ nI (j + 1) from nI_ge (b := 64) (by omega) (by omega), z_p600_279 (H _ _), z_i280 (H _ _), z_l280 (H _ _), inb_n (by omega : j + 1 < 64) (by omega : 64 < 2 ^ 31), aP, xP_tb, nI_clamp (by omega : j + 1 < 2 ^ 31), hb, z_c (H _ _) hb1 hb2, inb_n (by omega : j < 64) (by omega : 64 < 2 ^ 31), wP_tb S _ _ (by omega : j < 2 ^ 31)]
    rw [ih (j + 1) fu (va_up P j (some b)) (by omega) (by omega) (fun i hi => by
      unfold va_up
      by_cases q : i = j
      · exact ⟨b, by rw [if_pos q], hb1, hb2⟩
      · rw [if_neg q]; exact hP i hi)]
    congr 3
    funext i
    unfold va_up
    by_cases q : i = j
    · rw [if_neg (by omega), if_neg (by omega), if_pos q, if_pos (by omega), q, hb]
    · by_cases q1 : j + 1 ≤ i ∧ i < n
      · rw [if_pos q1, if_neg (by omega), if_pos (by omega)]
      · rw [if_neg q1, if_neg q]
        by_cases q2 : i = n
        · rw [if_pos q2, if_neg (by omega)]
        · rw [if_neg q2, if_neg (by omega)]
/-- one is taken out of a row of n + 1, and stands behind the others -/
def rm {α : Type} (k n : Nat) (X : Nat → α) : Nat → α := fun i => if k ≤ i ∧ i < n then X (i + 1) else if i = n then X k else X i
def PQ (P : Nat → Option Nat) (Q : Nat → Nat) : Prop := (∀ i, i < 64 → P i = some (Q i) ∧ 281 ≤ Q i ∧ Q i < 345) ∧ ∀ i j, i < 64 → j < 64 → Q i = Q j → i = j
theorem PQ_rm {P : Nat → Option Nat} {Q : Nat → Nat} (h : PQ P Q) {k n : Nat} (hk : k ≤ n) (hn : n < 64) : PQ (fun i => if k ≤ i ∧ i < n then P (i + 1) else if i = n then some (Q k) else P i) (rm k n Q) := by
  refine ⟨fun i hi => ?_, fun i j hi hj => ?_⟩
  · unfold rm
    by_cases q1 : k ≤ i ∧ i < n
    · simp only [if_pos q1]; exact h.1 _ (by omega)
    · simp only [if_neg q1]
      by_cases q2 : i = n
      · simp only [if_pos q2]; exact ⟨trivial, (h.1 k (by omega)).2⟩
      · simp only [if_neg q2]; exact h.1 i hi
  · have g : ∀ i, i < 64 → ∃ i', i' < 64 ∧ rm k n Q i = Q i' ∧ (k ≤ i ∧ i < n ∧ i' = i + 1 ∨ i = n ∧ i' = k ∨ ¬ (k ≤ i ∧ i < n) ∧ i ≠ n ∧ i' = i) := by
      intro i hi
      unfold rm
      by_cases q1 : k ≤ i ∧ i < n
      · exact ⟨i + 1, by omega, by rw [if_pos q1], by omega⟩
      · by_cases q2 : i = n
        · exact ⟨k, by omega, by rw [if_neg q1, if_pos q2], by omega⟩
        · exact ⟨i, by omega, by rw [if_neg q1, if_neg q2], by omega⟩
    obtain ⟨i', a1, a2, a3⟩ := g i hi
    obtain ⟨j', b1, b2, b3⟩ := g j hj
    intro e
    rw [a2, b2] at e
    have := h.2 i' j' a1 b1 e
    omega
theorem k_remove {S : gk_S} (h : Sh S) {F : Nat} (hF : 16400 ≤ F) {P : Nat → Option Nat} {Q : Nat → Nat} (hP : PQ P Q) {k n : Nat} (hk : k ≤ n) (hn : n < 64) : ∃ P', f_X8_remove F (tb S P (n + 1)) 279 (nI k) = some ((), tb S P' n) ∧ PQ P' (rm k n Q) := by
  refine ⟨_, ?_, PQ_rm hP hk hn⟩
  have H : ∀ P n, Sh (tb S P n) := fun P n => Sh_tb h P n
  have b := hP.1 k (by omega)
  simp only [f_X8_remove, show ¬ nI k < 0 from nI_pos (by omega), if_false, qk_true, qk_false, qv_eq, qP_some', qP_none, qc_some', qc_none, qx_inl', qx_inr', qh_inl', qh_inr', z_i279 (H _ _), gI_tb, show nI k < nI (n + 1) from nI_lt (by omega) (by omega), if_true, k_tat (H P (n + 1)) (by omega : k < 64) b.1]
  exact k_rem21 h b.2 hn (n - k) k F P (by omega) (by omega) (fun i hi => ⟨_, hP.1 i hi⟩)
/-! what time takes: from the last to the first; X: which of the old ones stands where -/
def nw (tm : Nat) (C : Nat → Nat → Nat) : Nat → (Nat → Nat) × Nat → (Nat → Nat) × Nat
  | 0, X => X
  | k + 1, X => nw tm C k (if C (X.1 k) 8 ≤ tm then (rm k (X.2 - 1) X.1, X.2 - 1) else X)
theorem rm_comp {α β : Type} (k n : Nat) (f : α → β) (X : Nat → α) : rm k n (fun i => f (X i)) = fun i => f (rm k n X i) := by
  funext i
  unfold rm
  by_cases q1 : k ≤ i ∧ i < n
  · rw [if_pos q1, if_pos q1]
  · rw [if_neg q1, if_neg q1]
    by_cases q2 : i = n
    · rw [if_pos q2, if_pos q2]
    · rw [if_neg q2, if_neg q2]
theorem rm_lt {X : Nat → Nat} {k n n0 : Nat} (hk : k ≤ n) (h : ∀ i, i < n + 1 → X i < n0) : ∀ i, i < n → rm k n X i < n0 := by
  intro i hi
  unfold rm
  by_cases q1 : k ≤ i ∧ i < n
  · rw [if_pos q1]; exact h _ (by omega)
  · rw [if_neg q1, if_neg (by omega)]; exact h i (by omega)
theorem em1 (k : Nat) : nI k + (-1) = nI k - 1 := by rw [Int32.sub_eq_add_neg]
theorem k_now28 {S : gk_S} (h : Sh S) {F tm n0 : Nat} (hF : 16400 ≤ F) (ht : tm ≤ 1000000000) {Q : Nat → Nat} {C : Nat → Nat → Nat} (hD : ∀ i, i < n0 → C i 8 < 2000000000) (hC : ∀ i, i < n0 → gI S 8 (Q i) = nI (C i 8)) (h3 : gI S 603 279 = nI tm) : ∀ (k fu n : Nat) (P : Nat → Option Nat) (X : Nat → Nat), k ≤ n → n ≤ 64 → k < fu → (∀ i, i < n → X i < n0) → PQ P (fun i => Q (X i)) → ∃ P', f_X8_setTime_28 F fu 279 (nI k - 1) (tb S P n) = some (1, tb S P' (nw tm C k (X, n)).2) ∧ PQ P' (fun i => Q ((nw tm C k (X, n)).1 i)) ∧ (∀ i, i < (nw tm C k (X, n)).2 → (nw tm C k (X, n)).1 i < n0) ∧ (nw tm C k (X, n)).2 ≤ n := by
  intro k
  induction k with
  | zero =>
    intro fu n P X hk hn hf hX hP
    obtain ⟨fu, rfl⟩ : ∃ q, fu = q + 1 := ⟨fu - 1, by omega⟩
    refine ⟨P, ?_, hP, hX, Nat.le_refl _⟩
    rw [f_X8_setTime_28, if_pos (by decide)]
    rfl
  | succ k ih =>
    intro fu n P X hk hn hf hX hP
    obtain ⟨fu, rfl⟩ : ∃ q, fu = q + 1 := ⟨fu - 1, by omega⟩
    have H : ∀ P n, Sh (tb S P n) := fun P n => Sh_tb h P n
    have b := hP.1 k (by omega)
    have xk := hX k (by omega)
    have e8 : gI (tb S P n) 8 (Q (X k)) = nI (C (X k) 8) := hC _ xk
    have e9 : gI (tb S P n) 603 279 = nI tm := h3
    have d8 := hD _ xk
    rw [nI_pred, f_X8_setTime_28, if_neg (nI_pos (by omega))]
    simp only [qk_true, qk_false, qv_eq, qP_some', qP_none, qc_some', qc_none, qx_inl', qx_inr', qh_inl', qh_inr', z_i279 (H _ _), k_tat (H P n) (by omega : k < 64) b.1, z_c (H _ _) b.2.1 b.2.2, e8, e9, nw, em1]
    by_cases q : C (X k) 8 ≤ tm
    · rw [if_neg (nI_nlt q (by omega))]
      simp only [if_pos q]
      obtain ⟨n, rfl⟩ : ∃ n', n = n' + 1 := ⟨n - 1, by omega⟩
      obtain ⟨P', e1, e2⟩ := k_remove h hF (Q := fun i => Q (X i)) hP (by omega : k ≤ n) (by omega : n < 64)
      rw [e1]
      simp only [qk_true, qk_false, qv_eq, qP_some', qP_none, qc_some', qc_none, qx_inl', qx_inr', qh_inl', qh_inr', Nat.add_sub_cancel]
      obtain ⟨P2, g1, g2, g3, g4⟩ := ih fu n P' (rm k n X) (by omega) (by omega) (by omega) (rm_lt (by omega) hX) (by rw [← rm_comp]; exact e2)
      exact ⟨P2, g1, g2, g3, by omega⟩
    · rw [if_pos (nI_lt (by omega) (by omega))]
      simp only [if_neg q]
      exact ih fu n P X (by omega) hn (by omega) hX hP
/-! the model's table -/
def mt (S : gk_S) (T : Nat → Int32) (n : Nat) : gk_S := sI (rI S 369 T) 932 352 (nI n)
theorem mt_id {S : gk_S} {n : Nat} (h : gI S 932 352 = nI n) : S = mt S (xI S 369) n := by
  unfold mt
  rw [rI_id _ _ rfl, sI_id _ _ _ h]
theorem Sh_mt {S : gk_S} (h : Sh S) (T : Nat → Int32) (n : Nat) : Sh (mt S T n) := h
theorem gI_mt (S : gk_S) (T : Nat → Int32) (n : Nat) : gI (mt S T n) 932 352 = nI n := rfl
theorem xI_mt (S : gk_S) (T : Nat → Int32) (n : Nat) : xI (mt S T n) 369 = T := rfl
theorem sI_mt (S : gk_S) (T : Nat → Int32) (n m : Nat) : sI (mt S T n) 932 352 (nI m) = mt S T m := by
  unfold mt
  rw [sI_sI]
theorem wI_mt (S : gk_S) (T : Nat → Int32) (n : Nat) {j : Nat} (hj : j < 2 ^ 31) (v : Int32) : wI (mt S T n) 369 (nI j) v = mt S (upd T j v) n := by
  unfold wI
  rw [nI_clamp hj, xI_mt]
  unfold mt
  rw [rI_sI, rI_rI]
theorem n9 (k : Nat) : 9 * nI k = nI (9 * k) := pk_mul 9 k
theorem n9a (k : Nat) : nI k + 9 = nI (k + 9) := nI_add k 9
theorem m_goes15 {S : gk_S} (h : Sh S) {F n : Nat} (hn : n < 64) : ∀ (d q fu : Nat) (T : Nat → Int32), q ≤ 600 → (9 * n ≤ q ∧ d = 0 ∨ q + d = 9 * n) → d < fu → f_X12_goes_15 F fu 352 (nI q) (mt S T n) = some ((), mt S (fun i => if q ≤ i ∧ i < 9 * n then T (i + 9) else T i) n) := by
  intro d
  induction d with
  | zero =>
    intro q fu T hq6 hq hf
    obtain ⟨fu, rfl⟩ : ∃ q, fu = q + 1 := ⟨fu - 1, by omega⟩
    rw [f_X12_goes_15]
    simp only [qk_true, qk_false, qv_eq, qP_some', qP_none, qc_some', qc_none, qx_inl', qx_inr', qh_inl', qh_inr', z_i352 (Sh_mt h T n), gI_mt, n9, show nI (9 * n) ≤ nI q from nI_le (by omega) (by omega), if_true]
    congr 3
    funext i
    rw [if_neg (by omega)]
  | succ d ih =>
    intro q fu T hq6 hq hf
    obtain ⟨fu, rfl⟩ : ∃ q, fu = q + 1 := ⟨fu - 1, by omega⟩
    have H := fun T => Sh_mt h T n
    rw [f_X12_goes_15]
    simp only [qk_true, qk_false, qv_eq, qP_some', qP_none, qc_some', qc_none, qx_inl', qx_inr', qh_inl', qh_inr', z_i352 (H _), gI_mt, n9, n9a, show ¬ nI (9 * n) ≤ nI q from nI_ge (by omega) (by omega), if_false, z_p931_352 (H _), z_i369 (H _), z_l369 (H _), inb_n (by omega : q + 9 < 576) (by omega), inb_n (by omega : q < 576) (by omega), aI, xI_mt, nI_clamp (by omega : q + 9 < 2 ^ 31), wI_mt S _ _ (by omega : q < 2 ^ 31), nI_1]
    rw [ih (q + 1) fu _ (by omega) (by omega) (by omega)]
    congr 3
    funext i
    unfold upd
    by_cases q0 : i = q
    · rw [if_neg (by omega), if_pos q0, if_pos (by omega), q0]
    · by_cases q1 : q + 1 ≤ i ∧ i < 9 * n
      · rw [if_pos q1, if_neg (by omega), if_pos (by omega)]
      · rw [if_neg q1, if_neg q0, if_neg (by omega)]
/-- the model's row holds the connections -/
def MT (T : Nat → Int32) (C : Nat → Nat → Nat) (n : Nat) : Prop := ∀ i, i < n → ∀ j, j < 9 → T (9 * i + j) = nI (C i j)
theorem m_goes {S : gk_S} (h : Sh S) {F : Nat} (hF : 16400 ≤ F) {T : Nat → Int32} {C : Nat → Nat → Nat} {k n : Nat} (hT : MT T C (n + 1)) (hk : k ≤ n) (hn : n < 64) : ∃ T', f_X12_goes F (mt S T (n + 1)) 352 (nI k) = some ((), mt S T' n) ∧ MT T' (rm k n C) n := by
  refine ⟨fun i => if 9 * k ≤ i ∧ i < 9 * n then T (i + 9) else T i, ?_, fun i hi j hj => ?_⟩
  · simp only [f_X12_goes, qk_true, qk_false, qv_eq, qP_some', qP_none, qc_some', qc_none, qx_inl', qx_inr', qh_inl', qh_inr', z_i352 (Sh_mt h T _), gI_mt, nI_pred, sI_mt, n9]
    exact m_goes15 h hn (9 * n - 9 * k) (9 * k) F T (by omega) (by omega) (by omega)
  · unfold rm
    show (if 9 * k ≤ 9 * i + j ∧ 9 * i + j < 9 * n then T (9 * i + j + 9) else T (9 * i + j)) = _
    by_cases q1 : k ≤ i ∧ i < n
    · rw [if_pos q1, if_pos (by omega), show 9 * i + j + 9 = 9 * (i + 1) + j by omega]
      exact hT _ (by omega) j hj
    · rw [if_neg q1, if_neg (by omega), if_neg (by omega)]
      exact hT i (by omega) j hj
theorem m_now34 {S : gk_S} (h : Sh S) {F tm n0 : Nat} (hF : 16400 ≤ F) (ht : tm ≤ 1000000000) {C : Nat → Nat → Nat} (hD : ∀ i, i < n0 → C i 8 < 2000000000) (h3 : gI S 934 352 = nI tm) : ∀ (k fu n : Nat) (T : Nat → Int32) (X : Nat → Nat), k ≤ n → n ≤ 64 → k < fu → (∀ i, i < n → X i < n0) → MT T (fun i => C (X i)) n → ∃ T', f_X12_now_34 F fu 352 (nI k - 1) (mt S T n) = some (1, mt S T' (nw tm C k (X, n)).2) ∧ MT T' (fun i => C ((nw tm C k (X, n)).1 i)) (nw tm C k (X, n)).2 := by
  intro k
  induction k with
  | zero =>
    intro fu n T X hk hn hf hX hT
    obtain ⟨fu, rfl⟩ : ∃ q, fu = q + 1 := ⟨fu - 1, by omega⟩
    refine ⟨T, ?_, hT⟩
    rw [f_X12_now_34, if_pos (by decide)]
    rfl
  | succ k ih =>
    intro fu n T X hk hn hf hX hT
    obtain ⟨fu, rfl⟩ : ∃ q, fu = q + 1 := ⟨fu - 1, by omega⟩
    have H := fun T => Sh_mt h T n
    have xk := hX k (by omega)
    have e8 : T (9 * k + 8) = nI (C (X k) 8) := hT k (by omega) 8 (by omega)
    have e9 : gI (mt S T n) 934 352 = nI tm := h3
    have d8 := hD _ xk
    rw [nI_pred, f_X12_now_34, if_neg (nI_pos (by omega))]
    simp only [qk_true, qk_false, qv_eq, qP_some', qP_none, qc_some', qc_none, qx_inl', qx_inr', qh_inl', qh_inr', z_i352 (H _), z_p931_352 (H _), z_i369 (H _), z_l369 (H _), n9, show nI (9 * k) + 8 = nI (9 * k + 8) from nI_add _ 8, inb_n (by omega : 9 * k + 8 < 576) (by omega), aI, xI_mt, nI_clamp (by omega : 9 * k + 8 < 2 ^ 31), e8, e9, nw, em1]
    by_cases q : C (X k) 8 ≤ tm
    · rw [if_neg (nI_nlt q (by omega))]
      simp only [if_pos q]
      obtain ⟨n, rfl⟩ : ∃ n', n = n' + 1 := ⟨n - 1, by omega⟩
      obtain ⟨T', e1, e2⟩ := m_goes h hF (C := fun i => C (X i)) hT (by omega : k ≤ n) (by omega : n < 64)
      rw [e1]
      simp only [qk_true, qk_false, qv_eq, qP_some', qP_none, qc_some', qc_none, qx_inl', qx_inr', qh_inl', qh_inr', Nat.add_sub_cancel]
      exact ih fu n T' (rm k n X) (by omega) (by omega) (by omega) (rm_lt (by omega) hX) (by rw [rm_comp] at e2; exact e2)
    · rw [if_pos (nI_lt (by omega) (by omega))]
      simp only [if_neg q]
      exact ih fu n T X (by omega) hn (by omega) hX hT
