/-! the model's search: pieces that only read -/
/-- the rule whose packets are asked for -/
def SM (T : gk_S) (l1 l2 : Nat) (L1 L2 : AL) (mu : Option Nat) : Prop := Sh T ∧ l1 < 6 ∧ l2 < 6 ∧ gI T 926 352 = nI l1 ∧ gI T 927 352 = nI l2 ∧ (mu = none → gI T 930 352 = -1) ∧ (∀ i, mu = some i → gI T 930 352 = nI (16 * l1 + i) ∧ i < L1.n) ∧ ML T l1 L1 ∧ ML T l2 L2 ∧ WL L1 ∧ WL L2
def qr (L1 : AL) (mu : Option Nat) : AR := match mu with | none => wR 0 | some i => L1.r i
def inM (L : AL) (a : Nat) : Prop := a < 65536 ∧ ∀ i, Nat.testBit a i = true → i < L.n
section MSE
variable {T : gk_S} {F l l1 l2 : Nat} {L L1 L2 : AL} {mu : Option Nat}
theorem MR_lo (h : ML T l L) (hl : l < 6) (w : WL L) {i f : Nat} (hi : i < L.n) (hf : f < 6) : aJ T 358 (nI (6 * (16 * l + i) + f)) = lN ((L.r i).lo f) ∧ aJ T 359 (nI (6 * (16 * l + i) + f)) = lN ((L.r i).hi f) := by
  have := w.1
  unfold aJ
  rw [nI_clamp (by omega)]
  exact (h.2.2 i hi).2.2 f hf
theorem WR_lt {ρ : AR} (w : WR ρ) {f : Nat} (hf : f < 6) : ρ.lo f ≤ ρ.hi f ∧ ρ.hi f ≤ tp f ∧ ρ.hi f < 4294967296 := by
  have := tp_lt f
  have := w.2.2 f hf
  omega
theorem v_holds (hs : Sh T) (h : ML T l L) (hl : l < 6) (w : WL L) {i f v : Nat} (hi : i < L.n) (hf : f < 6) (hv : v < 2 ^ 62) : f_X12_holds F T 352 (nI (16 * l + i)) (nI f) (lN v) = some (bI (hd (L.r i) f v), T) := by
  have := w.1
  have wr := WR_lt (w.2.2 i hi) hf
  obtain ⟨a1, a2⟩ := MR_lo h hl w hi hf
  have ex : (6 : Int32) * nI (16 * l + i) + nI f = nI (6 * (16 * l + i) + f) := by rw [show (6 : Int32) = nI 6 from rfl, pk_mul, nI_add]
  have z1 : lN v < lN ((L.r i).lo f) ↔ v < (L.r i).lo f := l_lt (by omega) (by omega)
  have z2 : lN ((L.r i).hi f) < lN v ↔ (L.r i).hi f < v := l_lt (by omega) (by omega)
  unfold f_X12_holds hd
  rw [z_i352 hs, qk_true, z_p909_352 hs, qP_some', z_i358 hs, qk_true, ex, z_l358 hs, inb_n (show 6 * (16 * l + i) + f < 576 by omega) (by omega), qk_true, qv_eq, a1, if_pos hf]
  by_cases c1 : v < (L.r i).lo f
  · rw [if_pos (z1.mpr c1), decide_eq_false (by omega)]; rfl
  · rw [if_neg (fun q => c1 (z1.mp q)), z_p910_352 hs, qP_some', z_i359 hs, qk_true, z_l359 hs, inb_n (show 6 * (16 * l + i) + f < 576 by omega) (by omega), qk_true, qv_eq, a2]
    by_cases c2 : (L.r i).hi f < v
    · rw [if_pos (z2.mpr c2), decide_eq_false (by omega)]; rfl
    · rw [if_neg (fun q => c2 (z2.mp q)), decide_eq_true (by omega)]; rfl
theorem v_left6 (hs : Sh T) (h : ML T l L) (hl : l < 6) (w : WL L) {a f v : Nat} (ha : inM L a) (hf : f < 6) (hv : v < 2 ^ 62) : ∀ d k fu, k + d = 16 → d < fu → f_X12_left_6 F fu 352 (nI l) (nI a) (nI f) (lN v) (nI (bm (fun i => Nat.testBit a i && hd (L.r i) f v) k)) (nI k) T = some (nI (bm (fun i => Nat.testBit a i && hd (L.r i) f v) 16), T) := by
  intro d
  induction d with
  | zero =>
    intro k fu h1 h2
    obtain ⟨fu, rfl⟩ : ∃ q, fu = q + 1 := ⟨fu - 1, by omega⟩
    rw [f_X12_left_6, if_pos (show (16 : Int32) ≤ nI k from nI_le (a := 16) (by omega) (by omega)), show k = 16 by omega]
  | succ d ih =>
    intro k fu h1 h2
    obtain ⟨fu, rfl⟩ : ∃ q, fu = q + 1 := ⟨fu - 1, by omega⟩
    have hk : k < 16 := by omega
    have tb := tb_iff (a := a) (i := k) (by have := ha.1; omega) (by omega)
    have ex : (16 : Int32) * nI l + nI k = nI (16 * l + k) := by rw [show (16 : Int32) = nI 16 from rfl, pk_mul, nI_add]
    rw [f_X12_left_6, if_neg (show ¬ (16 : Int32) ≤ nI k from nI_ge (b := 16) hk (by omega))]
    cases ta : Nat.testBit a k
    · have e0 : bm (fun i => Nat.testBit a i && hd (L.r i) f v) (k + 1) = bm (fun i => Nat.testBit a i && hd (L.r i) f v) k := by
        rw [bm]
        simp only [ta, Bool.false_and]
        rfl
      rw [if_neg (fun q => by rw [tb.1.mp q] at ta; exact absurd ta (by decide)), nI_1, ← e0]
      exact ih (k + 1) fu (by omega) (by omega)
    · have hi := ha.2 k ta
      rw [if_pos (tb.1.mpr ta), z_i352 hs, qk_true, ex, v_holds hs h hl w hi hf hv, qc_some']
      cases hh : hd (L.r k) f v
      · have e0 : bm (fun i => Nat.testBit a i && hd (L.r i) f v) (k + 1) = bm (fun i => Nat.testBit a i && hd (L.r i) f v) k := by
          rw [bm]
          simp only [hh, Bool.and_false]
          rfl
        rw [if_pos (show bI false = 0 from rfl), nI_1, ← e0]
        exact ih (k + 1) fu (by omega) (by omega)
      · have e1 : nI (bm (fun i => Nat.testBit a i && hd (L.r i) f v) k) ||| ((1 : Int32) <<< (nI k &&& 31)) = nI (bm (fun i => Nat.testBit a i && hd (L.r i) f v) (k + 1)) := by
          rw [shl_1 k (by omega), nI_or, bm_s]
          simp only [ta, hh, Bool.and_self, if_true]
        rw [if_neg (show ¬ bI true = 0 by decide), qv_eq, e1, nI_1]
        exact ih (k + 1) fu (by omega) (by omega)
/-- a place where a rule of a turns, behind v -/
def BP (L : AL) (a f v z : Nat) : Prop := ∃ i, i < 16 ∧ Nat.testBit a i = true ∧ ((v < (L.r i).lo f ∧ z = (L.r i).lo f) ∨ (v ≤ (L.r i).hi f ∧ z = (L.r i).hi f + 1))
def rdm (L : AL) (a f v : Nat) : Nat := bm (fun i => Nat.testBit a i && hd (L.r i) f v) 16
theorem rdm_t (L : AL) (a f v : Nat) {i : Nat} (hi : i < 16) : Nat.testBit (rdm L a f v) i = (Nat.testBit a i && hd (L.r i) f v) := by
  unfold rdm
  rw [bm_t, decide_eq_true hi, Bool.true_and]
theorem rdm_in {a f v : Nat} (ha : inM L a) : inM L (rdm L a f v) := by
  refine ⟨bm_lt _ 16, fun i q => ha.2 i ?_⟩
  unfold rdm at q
  rw [bm_t, Bool.and_eq_true, Bool.and_eq_true] at q
  exact q.2.1
theorem v_left (hF : 16400 ≤ F) (hs : Sh T) (h : ML T l L) (hl : l < 6) (w : WL L) {a f v : Nat} (ha : inM L a) (hf : f < 6) (hv : v < 2 ^ 62) : f_X12_left F T 352 (nI l) (nI a) (nI f) (lN v) = some (nI (rdm L a f v), T) := v_left6 hs h hl w ha hf hv 16 0 F (by omega) (by omega)
/-- up to where nothing turns -/
theorem v_turn7 (hs : Sh T) (h : ML T l L) (hl : l < 6) (w : WL L) {a f v : Nat} (ha : inM L a) (hf : f < 6) (hv : v < 2 ^ 62) : ∀ d k fu e, k + d = 16 → d < fu → v < e → e < 2 ^ 62 → ∃ z, f_X12_turn_7 F fu 352 (nI l) (nI a) (nI f) (lN v) (lN e) (nI k) T = some (lN z, T) ∧ v < z ∧ z ≤ e ∧ (∀ i, k ≤ i → Nat.testBit a i = true → ((L.r i).lo f > v → z ≤ (L.r i).lo f) ∧ ((L.r i).hi f ≥ v → z ≤ (L.r i).hi f + 1)) ∧ (z = e ∨ BP L a f v z) := by
  intro d
  induction d with
  | zero =>
    intro k fu e h1 h2 h3 h4
    obtain ⟨fu, rfl⟩ : ∃ q, fu = q + 1 := ⟨fu - 1, by omega⟩
    have := w.1
    rw [f_X12_turn_7, if_pos (show (16 : Int32) ≤ nI k from nI_le (a := 16) (by omega) (by omega))]
    exact ⟨e, rfl, h3, Nat.le_refl _, fun i i1 i2 => by have := ha.2 i i2; omega, Or.inl rfl⟩
  | succ d ih =>
    intro k fu e h1 h2 h3 h4
    obtain ⟨fu, rfl⟩ : ∃ q, fu = q + 1 := ⟨fu - 1, by omega⟩
    have hk : k < 16 := by omega
    have := w.1
    have tb := tb_iff (a := a) (i := k) (by have := ha.1; omega) (by omega)
    have ex : (6 : Int32) * ((16 : Int32) * nI l + nI k) + nI f = nI (6 * (16 * l + k) + f) := by rw [show (16 : Int32) = nI 16 from rfl, pk_mul, nI_add, show (6 : Int32) = nI 6 from rfl, pk_mul, nI_add]
    rw [f_X12_turn_7, if_neg (show ¬ (16 : Int32) ≤ nI k from nI_ge (b := 16) hk (by omega))]
    cases ta : Nat.testBit a k
    · rw [if_pos (tb.2.mpr ta), nI_1]
      obtain ⟨z, z1, z2, z3, z4, zb⟩ := ih (k + 1) fu e (by omega) (by omega) h3 h4
      refine ⟨z, z1, z2, z3, ?_, zb⟩
      exact (fun i i1 i2 => z4 i (by
        rcases Nat.lt_or_ge k i with q | q
        · omega
        · have : i = k := by omega
          rw [this, ta] at i2; exact absurd i2 (by decide)) i2)
    · have hi := ha.2 k ta
      have wr := WR_lt (w.2.2 k hi) hf
      obtain ⟨a1, a2⟩ := MR_lo h hl w hi hf
      have hx : 6 * (16 * l + k) + f < 576 := by omega
      have y1 : lN ((L.r k).lo f) ≤ lN v ↔ (L.r k).lo f ≤ v := l_le (by omega) (by omega)
      have y2 : lN ((L.r k).hi f) < lN v ↔ (L.r k).hi f < v := l_lt (by omega) (by omega)
      have s67 : ∀ e1, v < e1 → e1 ≤ e → ∃ z, f_X12_turn_67 F (f_X12_turn_7 F fu) 352 (nI l) (nI a) (nI f) (lN v) (lN e1) (nI k) (nI (6 * (16 * l + k) + f)) T = some (lN z, T) ∧ v < z ∧ z ≤ e1 ∧ ((L.r k).hi f ≥ v → z ≤ (L.r k).hi f + 1) ∧ (∀ i, k + 1 ≤ i → Nat.testBit a i = true → ((L.r i).lo f > v → z ≤ (L.r i).lo f) ∧ ((L.r i).hi f ≥ v → z ≤ (L.r i).hi f + 1)) ∧ (z = e1 ∨ BP L a f v z) := by
        intro e1 g1 g2
        unfold f_X12_turn_67
        rw [z_i352 hs, qk_true, z_p910_352 hs, qP_some', z_i359 hs, qk_true, z_l359 hs, inb_n hx (by omega), qk_true, qv_eq, a2]
        by_cases c2 : (L.r k).hi f < v
        · rw [if_pos (y2.mpr c2), nI_1]
          obtain ⟨z, z1, z2, z3, z4, zb⟩ := ih (k + 1) fu e1 (by omega) (by omega) g1 (by omega)
          exact ⟨z, z1, z2, z3, fun q => by omega, z4, zb⟩
        · have y3 : lN ((L.r k).hi f + 1) < lN e1 ↔ (L.r k).hi f + 1 < e1 := l_lt (by omega) (by omega)
          have e1' : lN ((L.r k).hi f) + 1 = lN ((L.r k).hi f + 1) := by rw [show (1 : Int64) = lN 1 from rfl, lN_add]
          rw [if_neg (fun q => c2 (y2.mp q)), qP_some', z_i359 hs, qk_true, z_l359 hs, inb_n hx (by omega), qk_true, qv_eq, a2, e1', nI_1]
          by_cases c3 : (L.r k).hi f + 1 < e1
          · rw [if_pos (y3.mpr c3), qv_eq]
            obtain ⟨z, z1, z2, z3, z4, zb⟩ := ih (k + 1) fu ((L.r k).hi f + 1) (by omega) (by omega) (by omega) (by omega)
            refine ⟨z, z1, z2, by omega, fun _ => z3, z4, Or.inr ?_⟩
            rcases zb with q | q
            · exact ⟨k, hk, ta, Or.inr ⟨by omega, q⟩⟩
            · exact q
          · rw [if_neg (fun q => c3 (y3.mp q)), qv_eq]
            obtain ⟨z, z1, z2, z3, z4, zb⟩ := ih (k + 1) fu e1 (by omega) (by omega) g1 (by omega)
            exact ⟨z, z1, z2, z3, fun _ => by omega, z4, zb⟩
      rw [if_neg (fun q => by rw [tb.2.mp q] at ta; exact absurd ta (by decide)), ex, qv_eq, z_i352 hs, qk_true, z_p909_352 hs, qP_some', z_i358 hs, qk_true, z_l358 hs, inb_n hx (by omega), qk_true, qv_eq, a1]
      have put : ∀ z, (((L.r k).lo f > v → z ≤ (L.r k).lo f) ∧ ((L.r k).hi f ≥ v → z ≤ (L.r k).hi f + 1)) → (∀ i, k + 1 ≤ i → Nat.testBit a i = true → ((L.r i).lo f > v → z ≤ (L.r i).lo f) ∧ ((L.r i).hi f ≥ v → z ≤ (L.r i).hi f + 1)) → ∀ i, k ≤ i → Nat.testBit a i = true → ((L.r i).lo f > v → z ≤ (L.r i).lo f) ∧ ((L.r i).hi f ≥ v → z ≤ (L.r i).hi f + 1) := by
        intro z q1 q2 i i1 i2
        by_cases c : i = k
        · rw [c]; exact q1
        · exact q2 i (by omega) i2
      by_cases c1 : (L.r k).lo f ≤ v
      · rw [if_pos (y1.mpr c1)]
        obtain ⟨z, z1, z2, z3, z4, z5, zb⟩ := s67 e h3 (Nat.le_refl _)
        exact ⟨z, z1, z2, z3, put z ⟨fun q => by omega, z4⟩ z5, zb⟩
      · have y4 : lN ((L.r k).lo f) < lN e ↔ (L.r k).lo f < e := l_lt (by omega) (by omega)
        rw [if_neg (fun q => c1 (y1.mp q)), qP_some', z_i358 hs, qk_true, z_l358 hs, inb_n hx (by omega), qk_true, qv_eq, a1]
        by_cases c4 : (L.r k).lo f < e
        · rw [if_pos (y4.mpr c4), qv_eq]
          obtain ⟨z, z1, z2, z3, z4, z5, zb⟩ := s67 ((L.r k).lo f) (by omega) (by omega)
          refine ⟨z, z1, z2, by omega, put z ⟨fun _ => z3, z4⟩ z5, Or.inr ?_⟩
          rcases zb with q | q
          · exact ⟨k, hk, ta, Or.inl ⟨by omega, q⟩⟩
          · exact q
        · rw [if_neg (fun q => c4 (y4.mp q)), qv_eq]
          obtain ⟨z, z1, z2, z3, z4, z5, zb⟩ := s67 e h3 (Nat.le_refl _)
          exact ⟨z, z1, z2, z3, put z ⟨fun _ => by omega, z4⟩ z5, zb⟩
theorem v_turn (hF : 16400 ≤ F) (hs : Sh T) (h : ML T l L) (hl : l < 6) (w : WL L) {a f v e : Nat} (ha : inM L a) (hf : f < 6) (hv : v < e) (he : e < 2 ^ 62) : ∃ z, f_X12_turn F T 352 (nI l) (nI a) (nI f) (lN v) (lN e) = some (lN z, T) ∧ v < z ∧ z ≤ e ∧ (∀ i u, Nat.testBit a i = true → v ≤ u → u < z → hd (L.r i) f u = hd (L.r i) f v) ∧ (z = e ∨ BP L a f v z) := by
  obtain ⟨z, z1, z2, z3, z4, zb⟩ := v_turn7 (F := F) hs h hl w ha hf (by omega : v < 2 ^ 62) 16 0 F e (by omega) (by omega) hv he
  refine ⟨z, z1, z2, z3, fun i u ti u1 u2 => ?_, zb⟩
  obtain ⟨q1, q2⟩ := z4 i (Nat.zero_le _) ti
  unfold hd
  rw [if_pos hf, if_pos hf]
  refine decide_eq_decide.mpr ⟨fun p => ⟨?_, ?_⟩, fun p => ⟨?_, ?_⟩⟩
  · by_cases c : (L.r i).lo f > v
    · have := q1 c; omega
    · omega
  · omega
  · omega
  · have := q2 (by omega); omega
end MSE
