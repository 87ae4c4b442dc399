/-! bytes as numbers -/
def bt (g : Nat → Int32) (i : Nat) : Nat := un (g i &&& 255)
theorem bt_eq (g : Nat → Int32) (i : Nat) : g i &&& 255 = nI (bt g i) := (nI_un _).symm
theorem bt_lt (g : Nat → Int32) (i : Nat) : bt g i < 256 := by
  have := pk_and (g i) (m := 255) 8 (by decide)
  unfold bt
  rw [this, un_nI (by have := Nat.mod_lt (g i).toBitVec.toNat (show 2 ^ 8 > 0 by decide); omega)]
  exact Nat.mod_lt _ (by decide)
def wd (g : Nat → Int32) (i : Nat) : Nat := 256 * bt g i + bt g (i + 1)
theorem wd_lt (g : Nat → Int32) (i : Nat) : wd g i < 65536 := by
  have := bt_lt g i
  have := bt_lt g (i + 1)
  unfold wd
  omega
theorem and_63 (x : Int32) : (x &&& 255) &&& 63 = x &&& 63 := by
  rw [Int32.and_assoc]
  rfl
theorem b8_0 {x : Int32} (h : b8 x = x) : x = 0 ↔ x &&& 255 = 0 := by
  constructor
  · intro e; rw [e]; rfl
  · intro e
    rw [← h]
    have : ∀ y : Int32, y &&& 255 = 0 → b8 y = 0 := by
      intro y hy
      have e0 : b8 y = b8 (y &&& 255) := b8_eq fun i hi => by
        have : (y &&& 255).toBitVec = y.toBitVec &&& 255#32 := rfl
        rw [this, BitVec.getLsbD_and]
        have h5 : (255#32).getLsbD i = true := by
          have : ∀ i, i < 8 → (255#32).getLsbD i = true := by decide
          exact this i hi
        rw [h5, Bool.and_true]
      rw [e0, hy]
      rfl
    exact this x e
theorem or_lo {x y : Nat} (hx : x < 65536) (hy : y < 65536) : (nI x <<< ((16 : Int32) &&& 31)) ||| nI y = nI (65536 * x + y) := by
  apply Int32.toBitVec_inj.mp
  apply BitVec.eq_of_toNat_eq
  have e1 : ((nI x <<< ((16 : Int32) &&& 31)) ||| nI y).toBitVec = (BitVec.ofNat 32 x <<< 16) ||| BitVec.ofNat 32 y := rfl
  have e2 : (nI (65536 * x + y)).toBitVec = BitVec.ofNat 32 (65536 * x + y) := rfl
  rw [e1, e2, BitVec.toNat_or, BitVec.toNat_shiftLeft, BitVec.toNat_ofNat, BitVec.toNat_ofNat, BitVec.toNat_ofNat, Nat.mod_eq_of_lt (by omega : x < 2 ^ 32), Nat.mod_eq_of_lt (by omega : y < 2 ^ 32), Nat.mod_eq_of_lt (by omega : 65536 * x + y < 2 ^ 32), Nat.shiftLeft_eq, Nat.mod_eq_of_lt (by omega : x * 2 ^ 16 < 2 ^ 32), Nat.mul_comm x, ← Nat.two_pow_add_eq_or_of_lt (by omega : y < 2 ^ 16)]
theorem or_lo8 {x y : Nat} (hx : x < 256) (hy : y < 256) : (nI x <<< ((8 : Int32) &&& 31)) ||| nI y = nI (256 * x + y) := by
  apply Int32.toBitVec_inj.mp
  apply BitVec.eq_of_toNat_eq
  have e1 : ((nI x <<< ((8 : Int32) &&& 31)) ||| nI y).toBitVec = (BitVec.ofNat 32 x <<< 8) ||| BitVec.ofNat 32 y := rfl
  have e2 : (nI (256 * x + y)).toBitVec = BitVec.ofNat 32 (256 * x + y) := rfl
  rw [e1, e2, BitVec.toNat_or, BitVec.toNat_shiftLeft, BitVec.toNat_ofNat, BitVec.toNat_ofNat, BitVec.toNat_ofNat, Nat.mod_eq_of_lt (by omega : x < 2 ^ 32), Nat.mod_eq_of_lt (by omega : y < 2 ^ 32), Nat.mod_eq_of_lt (by omega : 256 * x + y < 2 ^ 32), Nat.shiftLeft_eq, Nat.mod_eq_of_lt (by omega : x * 2 ^ 8 < 2 ^ 32), Nat.mul_comm x, ← Nat.two_pow_add_eq_or_of_lt (by omega : y < 2 ^ 8)]
theorem l_shr16 {n : Nat} (h : n < 2 ^ 62) : (lN n >>> ((16 : Int32).toInt64 &&& 63)) = lN (n / 65536) := by
  apply Int64.toBitVec_inj.mp
  have e : (((16 : Int32).toInt64 &&& 63).toBitVec.smod 64).toNat = 16 := by decide
  show (BitVec.ofNat 64 n).sshiftRight' (((16 : Int32).toInt64 &&& 63).toBitVec.smod 64) = BitVec.ofNat 64 (n / 65536)
  rw [BitVec.sshiftRight', e, BitVec.sshiftRight_eq_of_msb_false]
  · apply BitVec.eq_of_toNat_eq
    rw [BitVec.toNat_ushiftRight, BitVec.toNat_ofNat, BitVec.toNat_ofNat, Nat.shiftRight_eq_div_pow, Nat.mod_eq_of_lt (by omega), Nat.mod_eq_of_lt (by omega)]
  · rw [BitVec.msb_eq_decide, decide_eq_false]
    rw [BitVec.toNat_ofNat, Nat.mod_eq_of_lt (by omega)]
    omega
theorem l_and16 {n : Nat} (h : n < 2 ^ 62) : lN n &&& 65535 = lN (n % 65536) := by
  apply Int64.toBitVec_inj.mp
  apply BitVec.eq_of_toNat_eq
  have e1 : (lN n &&& 65535).toBitVec = BitVec.ofNat 64 n &&& BitVec.ofNat 64 65535 := rfl
  have e2 : (lN (n % 65536)).toBitVec = BitVec.ofNat 64 (n % 65536) := rfl
  rw [e1, e2, BitVec.toNat_and, BitVec.toNat_ofNat, BitVec.toNat_ofNat, BitVec.toNat_ofNat, Nat.mod_eq_of_lt (by omega : n < 2 ^ 64), Nat.mod_eq_of_lt (by omega : 65535 < 2 ^ 64), Nat.mod_eq_of_lt (by omega : n % 65536 < 2 ^ 64)]
  exact Nat.and_two_pow_sub_one_eq_mod n 16
/-! sums -/
def fd (x : Nat) : Nat := x % 65536 + x / 65536
def rs (g : Nat → Int32) (to : Nat) : Nat → Nat → Nat
  | 0, _ => 0
  | d + 1, k => if to ≤ k then 0 else (256 * bt g k + (if k + 1 < to then bt g (k + 1) else 0)) + rs g to d (k + 2)
theorem rs_le (g : Nat → Int32) (to : Nat) : ∀ d k, rs g to d k ≤ 65535 * d := by
  intro d
  induction d with
  | zero => intro k; exact Nat.le_refl _
  | succ d ih =>
    intro k
    have := ih (k + 2)
    have := bt_lt g k
    have := bt_lt g (k + 1)
    unfold rs
    split
    · omega
    · split <;> omega
def rsm (g : Nat → Int32) (to k : Nat) : Nat := rs g to 1100 k
theorem rsm_le (g : Nat → Int32) (to k : Nat) : rsm g to k ≤ 72088500 := rs_le g to 1100 k
/-- the class's row of bytes: a, b; m of them; g -/
def CO (S : gk_S) (a : Nat) (g : Nat → Int32) (m : Nat) : Prop := (∀ F j, j < m → f_X2_at F S a (nI j) = some (nI (bt g j), S)) ∧ (∀ F j, m ≤ j → j < 2 ^ 31 → f_X2_at F S a (nI j) = some (0, S)) ∧ isb S a 1 = true ∧ gI S 101 a = nI m ∧ m ≤ 3000
theorem CO_of {S : gk_S} {a b n m : Nat} (h : OcH S a b n) (hm : m ≤ n) (hn : n ≤ 3000) (g1 : gI S 101 a = nI m) : CO S a (xI S b) m := by
  refine ⟨fun F j hj => ?_, fun F j hj h2 => ?_, h.1, g1, by omega⟩
  · rw [k_oat h hm hj g1, bt_eq]
  · obtain ⟨h1, h2', h3, h4, h5⟩ := h
    simp only [f_X2_at, show ¬ nI j < 0 from nI_pos h2, if_false, qk_true, qk_false, qv_eq, qP_some', qP_none, qc_some', qc_none, qx_inl', qx_inr', qh_inl', qh_inr', h1, g1, show nI m ≤ nI j from nI_le hj h2, if_true]
section SUMS
variable {S : gk_S} {F a m : Nat} {g : Nat → Int32}
theorem k_pair (h : CO S a g m) {k : Nat} (hk : k + 1 < m) : f_X2_pair F S a (nI k) = some (nI (wd g k), S) := by
  have b1 := bt_lt g k
  simp only [f_X2_pair, qk_true, qk_false, qv_eq, qP_some', qP_none, qc_some', qc_none, qx_inl', qx_inr', qh_inl', qh_inr', h.2.2.1, h.1 F k (by omega), nI_1, h.1 F (k + 1) hk]
  rw [show (256 : Int32) = nI 256 from rfl, pk_mul, nI_add]
  unfold wd
  rw [Nat.mul_comm]
theorem k_sumE {A : Nat} (hA : A < 2 ^ 27) : ((((nI A &&& 65535) + ((nI A).toUInt32 >>> ((16 : Int32).toUInt32 &&& Int32.toUInt32 31)).toInt32) &&& 65535) + ((((nI A &&& 65535) + ((nI A).toUInt32 >>> ((16 : Int32).toUInt32 &&& Int32.toUInt32 31)).toInt32) : Int32).toUInt32 >>> ((16 : Int32).toUInt32 &&& Int32.toUInt32 31)).toInt32) = nI (fd (fd A)) := by
  have e1 : nI A &&& 65535 = nI (A % 65536) := pk_andN (by omega) 16 (by decide)
  have e2 : ((nI A).toUInt32 >>> ((16 : Int32).toUInt32 &&& Int32.toUInt32 31)).toInt32 = nI (A / 65536) := pk_ushrN (by omega) 16 16 (by decide)
  have e3 : nI (fd A) &&& 65535 = nI (fd A % 65536) := pk_andN (by unfold fd; omega) 16 (by decide)
  have e4 : ((nI (fd A)).toUInt32 >>> ((16 : Int32).toUInt32 &&& Int32.toUInt32 31)).toInt32 = nI (fd A / 65536) := pk_ushrN (by unfold fd; omega) 16 16 (by decide)
  rw [e1, e2, nI_add]
  change (nI (fd A) &&& 65535) + ((nI (fd A)).toUInt32 >>> ((16 : Int32).toUInt32 &&& Int32.toUInt32 31)).toInt32 = _
  rw [e3, e4, nI_add]
  rfl
theorem k_sum6 (h : CO S a g m) {to : Nat} (ht : to ≤ m) : ∀ d k fu A, to ≤ k + 2 * d → k < 5000 → d < fu → A + 65536 * d < 2 ^ 27 → f_X10_sum_6 F fu a (nI to) (nI A) (nI k) S = some (nI (fd (fd (A + rs g to d k))), S) := by
  have m3 := h.2.2.2.2
  intro d
  induction d with
  | zero =>
    intro k fu A h1 h2 h3 h4
    obtain ⟨fu, rfl⟩ : ∃ q, fu = q + 1 := ⟨fu - 1, by omega⟩
    rw [f_X10_sum_6, if_pos (nI_le (by omega) (by omega))]
    simp only [qk_true, qk_false, qv_eq, qP_some', qP_none, qc_some', qc_none, qx_inl', qx_inr', qh_inl', qh_inr', rs, Nat.add_zero, k_sumE (by omega : A < 2 ^ 27)]
  | succ d ih =>
    intro k fu A h1 h2 h3 h4
    obtain ⟨fu, rfl⟩ : ∃ q, fu = q + 1 := ⟨fu - 1, by omega⟩
    have b1 := bt_lt g k
    have b2 := bt_lt g (k + 1)
    rw [f_X10_sum_6]
    unfold rs
    by_cases q : to ≤ k
    · rw [if_pos (nI_le q (by omega)), if_pos q]
      simp only [qk_true, qk_false, qv_eq, qP_some', qP_none, qc_some', qc_none, qx_inl', qx_inr', qh_inl', qh_inr', Nat.add_zero, k_sumE (by omega : A < 2 ^ 27)]
    · rw [if_neg (nI_ge (by omega) (by omega)), if_neg q]
      have e256 : nI (bt g k) * 256 = nI (256 * bt g k) := by rw [show (256 : Int32) = nI 256 from rfl, pk_mul, Nat.mul_comm]
      simp only [qk_true, qk_false, qv_eq, qP_some', qP_none, qc_some', qc_none, qx_inl', qx_inr', qh_inl', qh_inr', h.2.2.1, h.1 F k (by omega), nI_1, show nI k + 2 = nI (k + 2) from nI_add k 2, e256]
      by_cases q2 : k + 1 < to
      · rw [if_neg (nI_ge q2 (by omega)), if_pos q2]
        simp only [h.1 F (k + 1) (by omega), qk_true, qk_false, qv_eq, qP_some', qP_none, qc_some', qc_none, qx_inl', qx_inr', qh_inl', qh_inr', nI_add]
        rw [ih (k + 2) fu _ (by omega) (by omega) (by omega) (by omega)]
        simp only [Nat.add_assoc]
      · rw [if_pos (nI_le (by omega) (by omega)), if_neg q2, show nI A + (nI (256 * bt g k) + 0) = nI (A + (256 * bt g k + 0)) from by rw [show (0 : Int32) = nI 0 from rfl, nI_add, nI_add]]
        rw [ih (k + 2) fu _ (by omega) (by omega) (by omega) (by omega)]
        simp only [Nat.add_assoc]
theorem k_sum (h : CO S a g m) {to k A : Nat} (hF : 16400 ≤ F) (ht : to ≤ m) (hk : k ≤ to) (h2 : to ≤ 2200) (hA : A < 1000000) : f_X10_sum F S a (nI k) (nI to) (nI A) = some (nI (fd (fd (A + rsm g to k))), S) := k_sum6 h ht 1100 k F A (by omega) (by omega) (by omega) (by omega)
theorem fd_id {x : Nat} (h : x < 65536) : fd x = x := by unfold fd; omega
theorem m_sum65 {X : Nat} (hF : 16400 ≤ F) (hX : X < 2 ^ 27) : f_X12_summed_65 F F (lN X) S = some (nI (fd (fd X)), S) := by
  obtain ⟨fu, e⟩ : ∃ fu, F = fu + 3 := ⟨F - 3, by omega⟩
  have step : ∀ fu Y, Y < 2 ^ 27 → f_X12_summed_65 F (fu + 1) (lN Y) S = if Y ≤ 65535 then some (nI Y, S) else f_X12_summed_65 F fu (lN (fd Y)) S := by
    intro fu Y hY
    rw [f_X12_summed_65]
    simp only [show lN Y ≤ 65535 ↔ Y ≤ 65535 from l_le (b := 65535) (by omega) (by omega), lN_i, qk_true, qk_false, qv_eq, qP_some', qP_none, qc_some', qc_none, qx_inl', qx_inr', qh_inl', qh_inr', l_and16 (by omega : Y < 2 ^ 62), l_shr16 (by omega : Y < 2 ^ 62), lN_add]
    rfl
  have f1 : fd X < 2 ^ 27 := by unfold fd; omega
  have f2 : fd (fd X) ≤ 65535 := by unfold fd; omega
  have key : f_X12_summed_65 F (fu + 2 + 1) (lN X) S = some (nI (fd (fd X)), S) := by
    rw [step _ _ hX]
    by_cases q : X ≤ 65535
    · rw [if_pos q, fd_id (by rw [fd_id (by omega)]; omega), fd_id (by omega)]
    · rw [if_neg q, step _ _ f1]
      by_cases q2 : fd X ≤ 65535
      · rw [if_pos q2, fd_id (x := fd X) (by omega)]
      · rw [if_neg q2, step _ _ (by omega), if_pos f2]
  rw [← e] at key
  exact key
theorem m_byte (h : Sh S) (hg : xI S 353 = g) {k : Nat} (hk : k < 2100) : inb (nI k) (gL S 353) = true ∧ aI S 353 (nI k) = g k ∧ aI S 353 (nI k) &&& 255 = nI (bt g k) := by
  have e : aI S 353 (nI k) = g k := by
    unfold aI
    rw [nI_clamp (by omega), hg]
  exact ⟨by rw [z_l353 h]; exact inb_n hk (by omega), e, by rw [e, bt_eq]⟩
theorem m_two (h : Sh S) (hg : xI S 353 = g) {k : Nat} (hk : k + 1 < 2100) : f_X12_two F S 352 (nI k) = some (nI (wd g k), S) := by
  have b1 := m_byte h hg (by omega : k < 2100)
  have b2 := m_byte h hg hk
  simp only [f_X12_two, qk_true, qk_false, qv_eq, qP_some', qP_none, qc_some', qc_none, qx_inl', qx_inr', qh_inl', qh_inr', z_i352 h, z_p901_352 h, z_i353 h, b1.1, b1.2.2, nI_1, b2.1, b2.2.2, or_lo8 (bt_lt g k) (bt_lt g (k + 1))]
  rfl
theorem m_addr (h : Sh S) (hg : xI S 353 = g) {k : Nat} (hk : k + 3 < 2100) : f_X12_address F S 352 (nI k) = some (nI (65536 * wd g k + wd g (k + 2)), S) := by
  simp only [f_X12_address, qk_true, qk_false, qv_eq, qP_some', qP_none, qc_some', qc_none, qx_inl', qx_inr', qh_inl', qh_inr', z_i352 h, m_two h hg (by omega : k + 1 < 2100), show nI k + 2 = nI (k + 2) from nI_add k 2, m_two h hg (by omega : k + 2 + 1 < 2100), or_lo (wd_lt g k) (wd_lt g (k + 2))]
theorem m_sum7 (h : Sh S) (hg : xI S 353 = g) (hF : 16400 ≤ F) {to : Nat} (ht : to ≤ 2100) : ∀ d k fu A, to ≤ k + 2 * d → k < 5000 → d < fu → A + 65536 * d < 2 ^ 27 → f_X12_summed_7 F fu 352 (nI to) (lN A) (nI k) S = some (nI (fd (fd (A + rs g to d k))), S) := by
  intro d
  induction d with
  | zero =>
    intro k fu A h1 h2 h3 h4
    obtain ⟨fu, rfl⟩ : ∃ q, fu = q + 1 := ⟨fu - 1, by omega⟩
    rw [f_X12_summed_7, if_pos (nI_le (by omega) (by omega)), m_sum65 hF (by omega : A < 2 ^ 27)]
    rfl
  | succ d ih =>
    intro k fu A h1 h2 h3 h4
    obtain ⟨fu, rfl⟩ : ∃ q, fu = q + 1 := ⟨fu - 1, by omega⟩
    have c1 := bt_lt g k
    have c2 := bt_lt g (k + 1)
    rw [f_X12_summed_7]
    unfold rs
    by_cases q : to ≤ k
    · rw [if_pos (nI_le q (by omega)), if_pos q, m_sum65 hF (by omega : A < 2 ^ 27)]
      rfl
    · rw [if_neg (nI_ge (by omega) (by omega)), if_neg q]
      have b1 := m_byte h hg (by omega : k < 2100)
      have e0 : (nI (bt g k) <<< ((8 : Int32) &&& 31)) ||| 0 = nI (256 * bt g k + 0) := or_lo8 (y := 0) c1 (by omega)
      simp only [qk_true, qk_false, qv_eq, qP_some', qP_none, qc_some', qc_none, qx_inl', qx_inr', qh_inl', qh_inr', z_i352 h, z_p901_352 h, z_i353 h, b1.1, b1.2.2, nI_1, show nI k + 2 = nI (k + 2) from nI_add k 2, e0, nI_l (by omega : 256 * bt g k + 0 < 2 ^ 31), lN_add]
      by_cases q2 : k + 1 < to
      · have b2 := m_byte h hg (by omega : k + 1 < 2100)
        rw [if_neg (nI_ge q2 (by omega)), if_pos q2]
        simp only [b2.1, b2.2.2, qk_true, qk_false, qv_eq, qP_some', qP_none, qc_some', qc_none, qx_inl', qx_inr', qh_inl', qh_inr', or_lo8 c1 c2, nI_l (by omega : 256 * bt g k + bt g (k + 1) < 2 ^ 31), lN_add]
        rw [ih (k + 2) fu _ (by omega) (by omega) (by omega) (by omega)]
        simp only [Nat.add_assoc]
      · rw [if_pos (nI_le (by omega) (by omega)), if_neg q2]
        rw [ih (k + 2) fu _ (by omega) (by omega) (by omega) (by omega)]
        simp only [Nat.add_assoc]
theorem m_sum (h : Sh S) (hg : xI S 353 = g) {to k A : Nat} (hF : 16400 ≤ F) (ht : to ≤ 2100) (hk : k ≤ to) (hA : A < 1000000) : f_X12_summed F S 352 (nI k) (nI to) (nI A) = some (nI (fd (fd (A + rsm g to k))), S) := by
  unfold f_X12_summed
  rw [nI_l (by omega)]
  exact m_sum7 h hg hF ht 1100 k F A (by omega) (by omega) (by omega) (by omega)
end SUMS
