/-! bits -/
theorem b8_eq {x y : Int32} (h : ∀ i, i < 8 → x.toBitVec.getLsbD i = y.toBitVec.getLsbD i) : b8 x = b8 y := by
  unfold b8
  congr 1
  apply Int8.toBitVec_inj.mp
  apply BitVec.eq_of_getLsbD_eq
  intro i hi
  have h1 := h i hi
  simp only [Int32.toBitVec_toInt8, BitVec.getLsbD_signExtend]
  rw [if_pos (by omega), if_pos (by omega), h1]
theorem us8 (x : Int32) (i : Nat) : (((x : Int32).toUInt32 >>> ((8 : Int32).toUInt32 &&& Int32.toUInt32 31)).toInt32).toBitVec.getLsbD i = x.toBitVec.getLsbD (8 + i) := by
  show (x.toBitVec >>> 8).getLsbD i = _
  rw [BitVec.getLsbD_ushiftRight]
theorem us16 (x : Int32) (i : Nat) : (((x : Int32).toUInt32 >>> ((16 : Int32).toUInt32 &&& Int32.toUInt32 31)).toInt32).toBitVec.getLsbD i = x.toBitVec.getLsbD (16 + i) := by
  show (x.toBitVec >>> 16).getLsbD i = _
  rw [BitVec.getLsbD_ushiftRight]
theorem ss_ (x : Int32) {k i : Nat} (hk : k < 32) (hi : k + i < 32) : ((x : Int32) >>> ((nI k : Int32) &&& 31)).toBitVec.getLsbD i = x.toBitVec.getLsbD (k + i) := by
  have e : ((nI k &&& 31).toBitVec.smod 32).toNat = k := by
    have : ∀ k, k < 32 → ((nI k &&& 31).toBitVec.smod 32).toNat = k := by decide +kernel
    exact this k hk
  show (x.toBitVec.sshiftRight' ((nI k &&& 31).toBitVec.smod 32)).getLsbD i = _
  rw [BitVec.sshiftRight', e, BitVec.getLsbD_sshiftRight]
  simp only [show ¬ 32 ≤ i by omega, decide_false, Bool.not_false, Bool.true_and, hi, if_true]
/-- the four bytes of a number -/
def by4 (x : Int32) (k : Nat) : Int32 := b8 (x >>> (nI k &&& 31))
def q4 (g : Nat → Int32) (m : Nat) (x : Int32) : Nat → Int32 := upd (upd (upd (upd g m (by4 x 24)) (m + 1) (by4 x 16)) (m + 2) (by4 x 8)) (m + 3) (by4 x 0)
theorem o_pair {S : gk_S} {a b n : Nat} (h : OcH S a b n) {F m : Nat} (hm : m + 1 < n) (g : Nat → Int32) (x : Int32) : f_X2_addPair F (oc S a b g m) a x = some ((), oc S a b (upd (upd g m (b8 ((x.toUInt32 >>> ((8 : Int32).toUInt32 &&& Int32.toUInt32 31)).toInt32))) (m + 1) (b8 x)) (m + 2)) := by
  have h1 : ∀ g m, isb (oc S a b g m) a 1 = true := fun _ _ => h.1
  simp only [f_X2_addPair, qk_true, qk_false, qv_eq, qP_some', qP_none, qc_some', qc_none, qx_inl', qx_inr', qh_inl', qh_inr', h1, o_add h (by omega : m < n), o_add h (by omega : m + 1 < n)]
theorem o_quad {S : gk_S} {a b n : Nat} (h : OcH S a b n) {F m : Nat} (hm : m + 3 < n) (g : Nat → Int32) (x : Int32) : f_X2_addQuad F (oc S a b g m) a x = some ((), oc S a b (q4 g m x) (m + 4)) := by
  have h1 : ∀ g m, isb (oc S a b g m) a 1 = true := fun _ _ => h.1
  simp only [f_X2_addQuad, qk_true, qk_false, qv_eq, qP_some', qP_none, qc_some', qc_none, qx_inl', qx_inr', qh_inl', qh_inr', h1, o_pair h (by omega : m + 1 < n), o_pair h (by omega : m + 2 + 1 < n)]
  unfold q4 by4
  rw [show b8 (x >>> (nI 24 &&& 31)) = b8 ((((x.toUInt32 >>> ((16 : Int32).toUInt32 &&& Int32.toUInt32 31)).toInt32).toUInt32 >>> ((8 : Int32).toUInt32 &&& Int32.toUInt32 31)).toInt32) from b8_eq fun i hi => by rw [us8, us16, ss_ x (by omega) (by omega)]; congr 1; omega,
    show b8 (x >>> (nI 16 &&& 31)) = b8 ((x.toUInt32 >>> ((16 : Int32).toUInt32 &&& Int32.toUInt32 31)).toInt32) from b8_eq fun i hi => by rw [us16, ss_ x (by omega) (by omega)],
    show b8 (x >>> (nI 8 &&& 31)) = b8 ((x.toUInt32 >>> ((8 : Int32).toUInt32 &&& Int32.toUInt32 31)).toInt32) from b8_eq fun i hi => by rw [us8, ss_ x (by omega) (by omega)],
    show b8 (x >>> (nI 0 &&& 31)) = b8 x from b8_eq fun i hi => by rw [ss_ x (by omega) (by omega)]; congr 1; omega]
/-! the model's tape -/
def mo (S : gk_S) (g : Nat → Int32) (m : Nat) : gk_S := sI (rI S 353 g) 902 352 (nI m)
theorem mo_id {S : gk_S} {m : Nat} (h : gI S 902 352 = nI m) : S = mo S (xI S 353) m := by
  unfold mo
  rw [rI_id _ _ rfl, sI_id _ _ _ h]
theorem m_four1 {S : gk_S} (h : Sh S) {F n k m : Nat} (hm : m < 2100) (hk : k < 32) (g : Nat → Int32) (x : Int32) : f_X12_four_3 F (n + 1) 352 x (nI k) (mo S g m) = f_X12_four_3 F n 352 x (nI k + (-8)) (mo S (upd g m (by4 x k)) (m + 1)) := by
  have e0 : ¬ nI k < 0 := nI_pos (by omega)
  have e2 : inb (nI m) 2100 = true := inb_n hm (by omega)
  have e3 : (nI m).toNatClampNeg = m := nI_clamp (by omega)
  have e4 : ∀ x : Int32, x.toInt8.toInt32.toInt8.toInt32 = b8 x := b8_b8
  rw [f_X12_four_3]
  simp only [mo, qk_true, qk_false, qv_eq, qP_some', qP_none, qc_some', qc_none, qx_inl', qx_inr', qh_inl', qh_inr', isb_sI, isb_rI, gP_sI, gP_rI, gL_sI, gL_rI, z_i352 h, z_p901_352 h, z_i353 h, z_l353 h, gI_sI, and_self, if_true, e0, if_false, e2, wB, xI_sI, xI_rI, e3, gI_rI, rI_sI, rI_rI, sI_sI, nI_1, e4, by4]
theorem m_four {S : gk_S} (h : Sh S) {F m : Nat} (hF : 16400 ≤ F) (hm : m + 3 < 2100) (g : Nat → Int32) (x : Int32) : f_X12_four F (mo S g m) 352 x = some ((), mo S (q4 g m x) (m + 4)) := by
  obtain ⟨n, rfl⟩ : ∃ n, F = n + 5 := ⟨F - 5, by omega⟩
  unfold f_X12_four
  rw [show (24 : Int32) = nI 24 from rfl, m_four1 h (by omega) (by omega), show nI 24 + (-8) = nI 16 from by decide, m_four1 h (by omega) (by omega), show nI 16 + (-8) = nI 8 from by decide, m_four1 h (by omega) (by omega), show nI 8 + (-8) = nI 0 from by decide, m_four1 h (by omega) (by omega), f_X12_four_3, if_pos (by decide)]
  rfl
