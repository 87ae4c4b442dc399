/-! bits that a list's text asks for -/
theorem bit7 : ∀ n, n < 128 → ∀ j, j < 7 → ((nI n >>> (nI j &&& 31)) &&& 1 = 0 ↔ Nat.testBit n j = false) ∧ ((nI n >>> (nI j &&& 31)) &&& 1 = 1 ↔ Nat.testBit n j = true) := by decide +kernel
theorem or7 : ∀ n, n < 128 → ∀ j, j < 7 → Nat.testBit n j = false → nI n ||| ((1 : Int32) <<< (nI j &&& 31)) = nI (n + 2 ^ j) := by decide +kernel
theorem or4 : ∀ s, s < 16 → ∀ j, j < 4 → nI s ||| ((1 : Int32) <<< (nI j &&& 31)) = nI (s ||| 2 ^ j) := by decide +kernel
theorem shl1 : ∀ k, k < 33 → (1 : Int64) <<< ((nI k).toInt64 &&& 63) = lN (2 ^ k) := by decide +kernel
theorem shr32 : ∀ v, v < 33 → (4294967295 : Int64) >>> ((nI v).toInt64 &&& 63) = lN (2 ^ (32 - v) - 1) := by decide +kernel
theorem tb_hi (q k i : Nat) : Nat.testBit (q * 2 ^ k) i = (decide (k ≤ i) && Nat.testBit q (i - k)) := by
  rw [Nat.mul_comm, Nat.testBit_two_pow_mul]
theorem l_mlo {x k : Nat} (hx : x < 4294967296) (hk : k < 33) : lN x &&& (lN (2 ^ k - 1) ^^^ (-1)) = lN (x / 2 ^ k * 2 ^ k) := by
  apply Int64.toBitVec_inj.mp
  apply BitVec.eq_of_getLsbD_eq
  intro i hi
  have e1 : (lN x &&& (lN (2 ^ k - 1) ^^^ (-1))).toBitVec = BitVec.ofNat 64 x &&& (BitVec.ofNat 64 (2 ^ k - 1) ^^^ BitVec.allOnes 64) := rfl
  have e2 : (lN (x / 2 ^ k * 2 ^ k)).toBitVec = BitVec.ofNat 64 (x / 2 ^ k * 2 ^ k) := rfl
  rw [e1, e2, BitVec.getLsbD_and, BitVec.getLsbD_xor, BitVec.getLsbD_ofNat, BitVec.getLsbD_ofNat, BitVec.getLsbD_ofNat, BitVec.getLsbD_allOnes, decide_eq_true hi, Bool.true_and, Bool.true_and, Bool.true_and, Nat.testBit_two_pow_sub_one, tb_hi, Nat.testBit_div_two_pow]
  by_cases c : k ≤ i
  · rw [decide_eq_true c, decide_eq_false (show ¬ i < k by omega), show i - k + k = i by omega]
    simp
  · rw [decide_eq_false c, decide_eq_true (show i < k by omega)]
    simp
theorem l_mhi {x k : Nat} (hk : k < 33) : lN x ||| lN (2 ^ k - 1) = lN (x / 2 ^ k * 2 ^ k + (2 ^ k - 1)) := by
  have hp : 0 < 2 ^ k := Nat.two_pow_pos _
  apply Int64.toBitVec_inj.mp
  apply BitVec.eq_of_getLsbD_eq
  intro i hi
  have e1 : (lN x ||| lN (2 ^ k - 1)).toBitVec = BitVec.ofNat 64 x ||| BitVec.ofNat 64 (2 ^ k - 1) := rfl
  have e2 : (lN (x / 2 ^ k * 2 ^ k + (2 ^ k - 1))).toBitVec = BitVec.ofNat 64 (x / 2 ^ k * 2 ^ k + (2 ^ k - 1)) := rfl
  rw [e1, e2, BitVec.getLsbD_or, BitVec.getLsbD_ofNat, BitVec.getLsbD_ofNat, BitVec.getLsbD_ofNat, decide_eq_true hi, Bool.true_and, Bool.true_and, Bool.true_and, Nat.mul_comm, Nat.two_pow_add_eq_or_of_lt (by omega), Nat.testBit_or, Nat.testBit_two_pow_sub_one, Nat.mul_comm, tb_hi, Nat.testBit_div_two_pow]
  by_cases c : k ≤ i
  · rw [decide_eq_true c, decide_eq_false (show ¬ i < k by omega), show i - k + k = i by omega]
    simp
  · rw [decide_eq_true (show i < k by omega)]
    simp
theorem lo_hi (x k : Nat) : x / 2 ^ k * 2 ^ k / 2 ^ k * 2 ^ k = x / 2 ^ k * 2 ^ k := by
  rw [Nat.mul_div_cancel _ (Nat.two_pow_pos _)]
/-! the class takes a token -/
def LPr (T : gk_S) (r : Nat) (L : AL) (q : Prop) : Prop := gI T 401 r = nI L.n ∧ gI T 402 r = nI L.p ∧ gI T 403 r = 0 ∧ (∀ i, i < L.n → CR T (ru r i) (L.r i) ∧ gI T 304 (ru r i) = 0) ∧ (q → CR T (ru r L.n) (L.r L.n) ∧ gI T 304 (ru r L.n) = 0)
def CB (T : gk_S) (r : Nat) (b : Nat → Nat) (m : Nat) (A : AS) : Prop := RD T b m ∧ gI T 707 256 = nI A.w ∧ (5 ≤ A.w → gI T 708 256 = nI A.n) ∧ (6 ≤ A.w → A.w ≤ 9 → gI T 709 256 = nI A.t) ∧ (7 ≤ A.w → A.w ≤ 9 → gJ T 710 256 = lN A.f) ∧ LPr T r A.L (5 ≤ A.w)
def TO (T : gk_S) (r : Nat) (b : Nat → Nat) (m : Nat) (f : Option (Int32 × gk_S)) (o : Nat ⊕ AS) : Prop := ∃ T', DF r T T' ∧ gI T' 704 256 = gI T 704 256 ∧ gI T' 705 256 = gI T 705 256 ∧ ((∃ κ, o = .inl κ ∧ 1 ≤ κ ∧ κ < 5 ∧ f = some (nI κ, T')) ∨ ∃ A', o = .inr A' ∧ f = some (0, T') ∧ CB T' r b m A')
section TKE
variable {S T : gk_S} {F r m : Nat} {b : Nat → Nat} {A : AS} {t : Nat × Nat × Nat × Nat}
theorem LP_c {T' : gk_S} {L : AL} {q q' : Prop} (h : LPr T r L q) (hn : L.n ≤ 16) (hq : q' → q ∧ L.n < 16) (e1 : ∀ f c, r ≤ c → c < r + 50 → gI T' f c = gI T f c) (e2 : ∀ c, r ≤ c → c < r + 50 → xJ T' c = xJ T c) : LPr T' r L q' := by
  obtain ⟨h1, h2, h3, h4, h5⟩ := h
  have cr : ∀ i, i < 16 → ∀ ρ, CR T (ru r i) ρ ∧ gI T 304 (ru r i) = 0 → CR T' (ru r i) ρ ∧ gI T' 304 (ru r i) = 0 := by
    intro i hi ρ c
    have u := ru_in (r := r) hi
    exact ⟨CR_c c.1 ⟨e1 _ _ u.1.1 u.1.2, e1 _ _ u.1.1 u.1.2, e2 _ u.2.1.1 u.2.1.2, e2 _ u.2.2.1 u.2.2.2⟩, (e1 _ _ u.1.1 u.1.2).trans c.2⟩
  exact ⟨(e1 _ _ (by omega) (by omega)).trans h1, (e1 _ _ (by omega) (by omega)).trans h2, (e1 _ _ (by omega) (by omega)).trans h3, fun i hi => cr i (by omega) _ (h4 i hi), fun p => cr _ (hq p).2 _ (h5 (hq p).1)⟩
theorem k_go (h : Sh T) (x : Int32) : f_X9_go F T 256 x = some (0, sI T 707 256 x) := by
  unfold f_X9_go
  rw [z_i256 h, qk_true, qv_eq]
theorem CB_go (hr : Ba r) (h : CB T r b m A) (hn : A.L.n ≤ 16) {x e : Nat} (h5 : 5 ≤ x → 5 ≤ A.w ∧ A.L.n < 16) (h6 : 6 ≤ x → x ≤ 9 → 6 ≤ A.w ∧ A.w ≤ 9) (h7 : 7 ≤ x → x ≤ 9 → 7 ≤ A.w ∧ A.w ≤ 9) : CB (sI T 707 256 (nI x)) r b m (x, e, A.n, A.t, A.f, A.L) := by
  have hb := Ba_lt hr
  obtain ⟨c1, c2, c3, c4, c5, c6⟩ := h
  refine ⟨RD_sI c1 (by decide) _ _, rd_eq _ _ _ _, fun q => ?_, fun q p => ?_, fun q p => ?_, LP_c c6 hn (fun q => h5 q) (fun f c c1 c2 => rd_ne _ _ (Or.inr (by omega))) (fun _ _ _ => rfl)⟩
  · rw [rd_ne _ _ (Or.inl (by decide))]; exact c3 (h5 q).1
  · rw [rd_ne _ _ (Or.inl (by decide))]; exact c4 (h6 q p).1 (h6 q p).2
  · rw [rj_I]; exact c5 (h7 q p).1 (h7 q p).2
theorem TO_go (hr : Ba r) (h : CB T r b m A) (hn : A.L.n ≤ 16) {x e : Nat} (h5 : 5 ≤ x → 5 ≤ A.w ∧ A.L.n < 16) (h6 : 6 ≤ x → x ≤ 9 → 6 ≤ A.w ∧ A.w ≤ 9) (h7 : 7 ≤ x → x ≤ 9 → 7 ≤ A.w ∧ A.w ≤ 9) : TO T r b m (some (0, sI T 707 256 (nI x))) (.inr (x, e, A.n, A.t, A.f, A.L)) := ⟨_, DF_sI DF_refl (Or.inl (by omega)) _, rd_ne _ _ (Or.inl (by decide)), rd_ne _ _ (Or.inl (by decide)), Or.inr ⟨_, rfl, rfl, CB_go hr h hn h5 h6 h7⟩⟩
theorem TO_f {κ : Nat} (h1 : 1 ≤ κ) (h2 : κ < 5) : TO T r b m (some (nI κ, T)) (.inl κ) := ⟨T, DF_refl, rfl, rfl, Or.inl ⟨κ, rfl, h1, h2, rfl⟩⟩
theorem k_takeRule (hF : 16400 ≤ F) (hr : Ba r) (h : CB T r b m A) (hA : WA m A) (c : CTk T t) (f : TF m t) : TO T r b m (f_X9_takeRule F T 256 r) (tRule t.1 (wk b t) t.2.2.2 A) := by
  have hb := Ba_lt hr
  have hc := h
  obtain ⟨c1, c2, c3, c4, c5, c6⟩ := hc
  have kq := kkL f
  have n16 := hA.2.2.1
  unfold f_X9_takeRule tRule
  rw [z_i256 c1.1, qk_true, qv_eq, c.1]
  by_cases q0 : t.1 = 0
  · rw [if_pos (kq.1.mpr q0), if_pos q0, k_go c1.1, qc_some']
    exact TO_go (x := 0) hr h n16 (fun q => by omega) (fun q => by omega) (fun q => by omega)
  · rw [if_neg (fun q => q0 (kq.1.mp q)), if_neg q0, k_act hF c1 c f, qc_some']
    by_cases q3 : wk b t < 3
    · rw [if_pos q3, if_neg (nI_m1 _ (by omega)), if_pos q3, z_r c1.1 hr, qk_true, qv_eq, c6.1]
      have z16 : nI A.L.n < 16 ↔ A.L.n < 16 := nI_ltI (b := 16) (by omega) (by omega)
      by_cases q16 : A.L.n < 16
      · rw [if_pos (z16.mpr q16), if_pos q16, qv_eq, k_at c1.1 hr q16, qc_some', z_u c1.1 hr q16, qk_true]
        obtain ⟨T1, r1, r2, r3, r4, r5, r6, r7⟩ := k_mall (F := F) hF c1.1 hr q16 (a := wk b t) (nI (wk b t)) rfl
        have u := ru_lt hr q16
        have hT1 := DF_RD r2 hr c1
        have h2 := RD_sI hT1 (f := 708) (by decide) 256 0
        rw [r1, qc_some', z_i256 hT1.1, qk_true, qv_eq, k_go h2.1, qc_some']
        have uu := fun i (hi : i < 16) => ru_in (r := r) hi
        refine ⟨_, DF_sI (DF_sI r2 (Or.inl (by omega)) _) (Or.inl (by omega)) _, ?_, ?_, Or.inr ⟨_, rfl, rfl, RD_sI h2 (by decide) _ _, rd_eq _ _ _ _, fun _ => ?_, fun q => absurd q (show ¬ 6 ≤ 5 by decide), fun q => absurd q (show ¬ 7 ≤ 5 by decide), ?_⟩⟩
        · rw [rd_ne _ _ (Or.inl (by decide)), rd_ne _ _ (Or.inl (by decide))]; exact r3 _ _ (by omega)
        · rw [rd_ne _ _ (Or.inl (by decide)), rd_ne _ _ (Or.inl (by decide))]; exact r3 _ _ (by omega)
        · rw [rd_ne _ _ (Or.inl (by decide))]; exact rd_eq _ _ _ _
        · have lp : LPr T1 r (upR A.L (wR (wk b t))) True := by
            obtain ⟨l1, l2, l3, l4, l5⟩ := c6
            refine ⟨(r3 _ _ (by unfold ru; omega)).trans l1, (r3 _ _ (by unfold ru; omega)).trans l2, (r3 _ _ (by unfold ru; omega)).trans l3, fun i hi => ?_, fun _ => ?_⟩
            · have hi' : i < A.L.n := hi
              rw [up_lt _ _ hi']
              have d : ru r i ≠ ru r A.L.n ∧ ru r i + 1 ≠ ru r A.L.n + 1 ∧ ru r i + 1 ≠ ru r A.L.n + 2 ∧ ru r i + 2 ≠ ru r A.L.n + 1 ∧ ru r i + 2 ≠ ru r A.L.n + 2 := by unfold ru; omega
              exact ⟨CR_c (l4 i hi').1 ⟨r3 _ _ d.1, r3 _ _ d.1, r4 _ d.2.1 d.2.2.1, r4 _ d.2.2.2.1 d.2.2.2.2⟩, (r3 _ _ d.1).trans (l4 i hi').2⟩
            · show CR T1 (ru r A.L.n) ((upR A.L (wR (wk b t))).r A.L.n) ∧ gI T1 304 (ru r A.L.n) = 0
              rw [up_eq]
              exact ⟨r5, r6⟩
          exact LP_c lp n16 (fun _ => ⟨trivial, q16⟩) (fun f c c1 c2 => by rw [rd_ne _ _ (Or.inr (by omega)), rd_ne _ _ (Or.inr (by omega))]) (fun _ _ _ => rfl)
      · rw [if_neg (fun q => q16 (z16.mp q)), if_neg q16]
        exact TO_f (κ := 4) (by omega) (by omega)
    · rw [if_neg q3, if_pos rfl, if_neg q3]
      exact TO_f (κ := 2) (by omega) (by omega)
/-- the rule that is read changes -/
theorem LP_up {T1 : gk_S} {L : AL} {q : Prop} {ρ : AR} (h : LPr T r L q) (hn : L.n < 16) (e1 : ∀ f c, c ≠ ru r L.n → r ≤ c → c < r + 50 → gI T1 f c = gI T f c) (e2 : ∀ c, c ≠ ru r L.n + 1 → c ≠ ru r L.n + 2 → r ≤ c → c < r + 50 → xJ T1 c = xJ T c) (e3 : CR T1 (ru r L.n) ρ ∧ gI T1 304 (ru r L.n) = 0) (q' : Prop) : LPr T1 r (upR L ρ) q' := by
  obtain ⟨l1, l2, l3, l4, l5⟩ := h
  have u0 : r ≠ ru r L.n := by unfold ru; omega
  refine ⟨(e1 _ _ u0 (by omega) (by omega)).trans l1, (e1 _ _ u0 (by omega) (by omega)).trans l2, (e1 _ _ u0 (by omega) (by omega)).trans l3, fun i hi => ?_, fun _ => ?_⟩
  · have hi' : i < L.n := hi
    rw [up_lt _ _ hi']
    have u := ru_in (r := r) (show i < 16 by omega)
    have d : ru r i ≠ ru r L.n ∧ ru r i + 1 ≠ ru r L.n + 1 ∧ ru r i + 1 ≠ ru r L.n + 2 ∧ ru r i + 2 ≠ ru r L.n + 1 ∧ ru r i + 2 ≠ ru r L.n + 2 := by unfold ru; omega
    exact ⟨CR_c (l4 i hi').1 ⟨e1 _ _ d.1 u.1.1 u.1.2, e1 _ _ d.1 u.1.1 u.1.2, e2 _ d.2.1 d.2.2.1 u.2.1.1 u.2.1.2, e2 _ d.2.2.2.1 d.2.2.2.2 u.2.2.1 u.2.2.2⟩, (e1 _ _ d.1 u.1.1 u.1.2).trans (l4 i hi').2⟩
  · show CR T1 (ru r L.n) ((upR L ρ).r L.n) ∧ gI T1 304 (ru r L.n) = 0
    rw [up_eq]
    exact e3
theorem k_takePart (hF : 16400 ≤ F) (hr : Ba r) (h : CB T r b m A) (hA : WA m A) (h5 : 5 ≤ A.w) (c : CTk T t) (f : TF m t) : TO T r b m (f_X9_takePart F T 256 r) (tPart t.1 t.2.1 (wk b t) t.2.2.2 A) := by
  have hb := Ba_lt hr
  have hc := h
  obtain ⟨c1, c2, c3, c4, c5, c6⟩ := hc
  have kq := kkL f
  have n16 := hA.2.2.1
  obtain ⟨w1, w2, w3, w4⟩ := hA.2.2.2.2.2.1 h5
  have u := ru_lt hr w1
  unfold f_X9_takePart tPart
  rw [z_i256 c1.1, qk_true, qv_eq, c.1]
  by_cases q0 : t.1 = 4 ∧ t.2.1 = 59
  · rw [if_pos (kq.2.2.2.2.2.2.1.mpr q0), if_pos q0, z_r c1.1 hr, qk_true, qv_eq, c6.1, qv_eq, nI_1, k_go (Sh_sI c1.1 _ _ _), qc_some']
    refine ⟨_, DF_sI (DF_sI DF_refl (Or.inr (by omega)) _) (Or.inl (by omega)) _, ?_, ?_, Or.inr ⟨_, rfl, rfl, RD_sI (RD_sI c1 (by decide) _ _) (by decide) _ _, rd_eq _ _ _ _, fun q => absurd q (show ¬ 5 ≤ 4 by decide), fun q => absurd q (show ¬ 6 ≤ 4 by decide), fun q => absurd q (show ¬ 7 ≤ 4 by decide), ?_⟩⟩
    · rw [rd_ne _ _ (Or.inl (by decide)), rd_ne _ _ (Or.inl (by decide))]
    · rw [rd_ne _ _ (Or.inl (by decide)), rd_ne _ _ (Or.inl (by decide))]
    · obtain ⟨l1, l2, l3, l4, l5⟩ := c6
      have g1 : ∀ f c, f ≠ 401 → f ≠ 707 → gI (sI (sI T 401 r (nI (A.L.n + 1))) 707 256 4) f c = gI T f c := fun f c p1 p2 => by rw [rd_ne _ _ (Or.inl p2), rd_ne _ _ (Or.inl p1)]
      refine ⟨?_, (g1 _ _ (by decide) (by decide)).trans l2, (g1 _ _ (by decide) (by decide)).trans l3, fun i hi => ?_, fun q => absurd q (show ¬ 5 ≤ 4 by decide)⟩
      · rw [rd_ne _ _ (Or.inl (by decide))]; exact rd_eq _ _ _ _
      · have hi' : i < A.L.n + 1 := hi
        have cc : CR T (ru r i) (A.L.r i) ∧ gI T 304 (ru r i) = 0 := by
          by_cases p : i < A.L.n
          · exact l4 i p
          · have : i = A.L.n := by omega
            subst this
            exact l5 h5
        exact ⟨CR_c cc.1 ⟨g1 _ _ (by decide) (by decide), g1 _ _ (by decide) (by decide), rfl, rfl⟩, (g1 _ _ (by decide) (by decide)).trans cc.2⟩
  · rw [if_neg (fun q => q0 (kq.2.2.2.2.2.2.1.mp q)), if_neg q0, k_par hF c1 c f, qc_some', z_i256 c1.1, qk_true, qv_eq, qv_eq, rd_eq]
    by_cases q1 : 4 ≤ wk b t ∧ wk b t < 11
    · rw [if_pos q1, if_pos q1]
      generalize hp : wk b t - 4 = p
      have hp7 : p < 7 := by omega
      have zb := bit7 A.n w2 p hp7
      have z6 : nI p = 6 ↔ p = 6 := nI_eq (b := 6) (by omega) (by omega)
      have h1 := RD_sI c1 (f := 709) (by decide) 256 (nI p)
      have e8 : gI (sI T 709 256 (nI p)) 708 256 = nI A.n := by rw [rd_ne _ _ (Or.inl (by decide))]; exact c3 h5
      rw [if_neg (nI_m1 _ (by omega)), qv_eq, e8, qv_eq]
      cases tb : Nat.testBit A.n p
      · have e2 : gI (sI (sI T 709 256 (nI p)) 708 256 (nI (A.n + 2 ^ p))) 709 256 = nI p := by rw [rd_ne _ _ (Or.inl (by decide))]; exact rd_eq _ _ _ _
        have h2 := RD_sI h1 (f := 708) (by decide) 256 (nI (A.n + 2 ^ p))
        have e4 : gI (sI (sI T 709 256 (nI p)) 708 256 (nI (A.n + 2 ^ p))) 401 r = nI A.L.n := by rw [rd_ne _ _ (Or.inl (by decide)), rd_ne _ _ (Or.inl (by decide))]; exact c6.1
        rw [if_pos (zb.1.mpr tb), qv_eq, qv_eq, or7 A.n w2 p hp7 tb, qv_eq, qv_eq, e2, if_neg (show ¬ false = true by decide)]
        have cL : ∀ f c, r ≤ c → c < r + 50 → gI (sI (sI T 709 256 (nI p)) 708 256 (nI (A.n + 2 ^ p))) f c = gI T f c := fun f c x1 x2 => by rw [rd_ne _ _ (Or.inr (by omega)), rd_ne _ _ (Or.inr (by omega))]
        by_cases q6 : p = 6
        · rw [if_pos (z6.mpr q6), z_r h2.1 hr, qk_true, qv_eq, e4, k_at h2.1 hr w1, qc_some', z_u h2.1 hr w1, qk_true, qv_eq]
          have h3 := RD_sI h2 (f := 302) (by decide) (ru r A.L.n) 0
          have w10 : wk b t = 10 := by omega
          rw [z_i256 h3.1, qk_true, k_go h3.1, qc_some', if_pos w10]
          have e708 : gI (sI (sI (sI (sI T 709 256 (nI p)) 708 256 (nI (A.n + 2 ^ p))) 302 (ru r A.L.n) 0) 707 256 10) 708 256 = nI (A.n + 2 ^ p) := by rw [rd_ne _ _ (Or.inl (by decide)), rd_ne _ _ (Or.inl (by decide))]; exact rd_eq _ _ _ _
          refine ⟨_, DF_sI (DF_sI (DF_sI (DF_sI DF_refl (Or.inl (by omega)) _) (Or.inl (by omega)) _) (Or.inr (ru_in w1).1) _) (Or.inl (by omega)) _, ?_, ?_, Or.inr ⟨_, rfl, rfl, RD_sI h3 (by decide) _ _, rd_eq _ _ _ _, fun _ => ?_, fun _ q => absurd q (show ¬ 10 ≤ 9 by decide), fun _ q => absurd q (show ¬ 10 ≤ 9 by decide), ?_⟩⟩
          · rw [rd_ne _ _ (Or.inl (by decide)), rd_ne _ _ (Or.inl (by decide)), rd_ne _ _ (Or.inl (by decide)), rd_ne _ _ (Or.inl (by decide))]
          · rw [rd_ne _ _ (Or.inl (by decide)), rd_ne _ _ (Or.inl (by decide)), rd_ne _ _ (Or.inl (by decide)), rd_ne _ _ (Or.inl (by decide))]
          · exact e708
          · refine LP_up c6 w1 (fun f c d x1 x2 => ?_) (fun _ _ _ _ _ => by rfl) ⟨⟨?_, ?_, ?_⟩, ?_⟩ _
            · rw [rd_ne _ _ (Or.inr (by omega)), rd_ne _ _ (Or.inr d)]; exact cL f c x1 x2
            · rw [rd_ne _ _ (Or.inl (by decide)), rd_ne _ _ (Or.inl (by decide)), cL _ _ (ru_in w1).1.1 (ru_in w1).1.2]; exact (c6.2.2.2.2 h5).1.1
            · rw [rd_ne _ _ (Or.inl (by decide))]; exact rd_eq _ _ _ _
            · exact (c6.2.2.2.2 h5).1.2.2
            · rw [rd_ne _ _ (Or.inl (by decide)), rd_ne _ _ (Or.inl (by decide)), cL _ _ (ru_in w1).1.1 (ru_in w1).1.2]; exact (c6.2.2.2.2 h5).2
        · rw [if_neg (fun q => q6 (z6.mp q)), k_go h2.1, qc_some', if_neg (show ¬ wk b t = 10 by omega)]
          refine ⟨_, DF_sI (DF_sI (DF_sI DF_refl (Or.inl (by omega)) _) (Or.inl (by omega)) _) (Or.inl (by omega)) _, ?_, ?_, Or.inr ⟨_, rfl, rfl, RD_sI h2 (by decide) _ _, rd_eq _ _ _ _, fun _ => ?_, fun _ _ => ?_, fun q => absurd q (show ¬ 7 ≤ 6 by decide), ?_⟩⟩
          · rw [rd_ne _ _ (Or.inl (by decide)), rd_ne _ _ (Or.inl (by decide)), rd_ne _ _ (Or.inl (by decide))]
          · rw [rd_ne _ _ (Or.inl (by decide)), rd_ne _ _ (Or.inl (by decide)), rd_ne _ _ (Or.inl (by decide))]
          · rw [rd_ne _ _ (Or.inl (by decide))]; exact rd_eq _ _ _ _
          · rw [rd_ne _ _ (Or.inl (by decide))]; exact e2
          · exact LP_c c6 n16 (fun _ => ⟨h5, w1⟩) (fun f c x1 x2 => by rw [rd_ne _ _ (Or.inr (by omega))]; exact cL f c x1 x2) (fun _ _ _ => rfl)
      · rw [if_neg (fun q => by rw [zb.1.mp q] at tb; exact absurd tb (by decide)), if_pos rfl]
        exact ⟨_, DF_sI DF_refl (Or.inl (by omega)) _, rd_ne _ _ (Or.inl (by decide)), rd_ne _ _ (Or.inl (by decide)), Or.inl ⟨4, rfl, by omega, by omega, rfl⟩⟩
    · rw [if_neg q1, if_pos rfl, if_neg q1]
      exact ⟨_, DF_sI DF_refl (Or.inl (by omega)) _, rd_ne _ _ (Or.inl (by decide)), rd_ne _ _ (Or.inl (by decide)), Or.inl ⟨2, rfl, by omega, by omega, rfl⟩⟩
end TKE
