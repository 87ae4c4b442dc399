/-! bytes that are written, from the first on -/
def wr (g : Nat → Int32) (l : List Nat) : Nat → Int32 := fun i => if i < l.length then b8 (nI (l.getD i 0)) else g i
theorem b8_un (x : Int32) : b8 x = b8 (nI (un x % 256)) := by
  apply b8_eq
  intro i hi
  have e : (nI (un x % 256)).toBitVec = BitVec.ofNat 32 (x.toBitVec.toNat % 256) := rfl
  rw [e, BitVec.getLsbD_ofNat, show (256 : Nat) = 2 ^ 8 from rfl, Nat.testBit_mod_two_pow, decide_eq_true hi, decide_eq_true (show i < 32 by omega)]
  rfl
theorem un_bit (x : Int32) (i : Nat) : Nat.testBit (un x) i = x.toBitVec.getLsbD i := rfl
theorem un_sshr (x : Int32) {k : Nat} (hk : k + 8 ≤ 32) : un (x >>> (nI k &&& 31)) % 256 = un x / 2 ^ k % 256 := by
  apply Nat.eq_of_testBit_eq
  intro i
  rw [show (256 : Nat) = 2 ^ 8 from rfl, Nat.testBit_mod_two_pow, Nat.testBit_mod_two_pow]
  by_cases q : i < 8
  · rw [decide_eq_true q, Bool.true_and, Bool.true_and, un_bit, ss_ x (by omega) (by omega), Nat.testBit_div_two_pow, un_bit, Nat.add_comm]
  · rw [decide_eq_false q]; rfl
theorem un_ushr8 (x : Int32) : un ((x.toUInt32 >>> ((8 : Int32).toUInt32 &&& Int32.toUInt32 31)).toInt32) = un x / 256 := by
  have := pk_ushrN (n := un x) (un_lt x) 8 8 (by decide)
  rw [nI_un] at this
  rw [this, un_nI (by have := un_lt x; omega)]
theorem un_ushr16 (x : Int32) : un ((x.toUInt32 >>> ((16 : Int32).toUInt32 &&& Int32.toUInt32 31)).toInt32) = un x / 65536 := by
  have := pk_ushrN (n := un x) (un_lt x) 16 16 (by decide)
  rw [nI_un] at this
  rw [this, un_nI (by have := un_lt x; omega)]
theorem wr_add (g : Nat → Int32) (l : List Nat) (x : Int32) : upd (wr g l) l.length (b8 x) = wr g (l ++ [un x % 256]) := by
  funext i
  unfold upd wr
  rw [List.length_append, List.length_singleton]
  by_cases q : i = l.length
  · subst q
    rw [if_pos rfl, if_pos (by omega), b8_un, List.getD_eq_getElem?_getD, List.getElem?_append_right (Nat.le_refl _), Nat.sub_self]
    rfl
  · rw [if_neg q]
    by_cases q1 : i < l.length
    · rw [if_pos q1, if_pos (by omega), List.getD_eq_getElem?_getD, List.getD_eq_getElem?_getD, List.getElem?_append_left q1]
    · rw [if_neg q1, if_neg (by omega)]
theorem wr_nil (g : Nat → Int32) : wr g [] = g := by
  funext i
  unfold wr
  rw [if_neg (by simp)]
/-- the class's out, the model's out -/
def CW (S : gk_S) (g : Nat → Int32) (l : List Nat) : gk_S := oc S 3 4 (wr g l) l.length
def MW (S : gk_S) (g : Nat → Int32) (l : List Nat) : gk_S := sI (rI S 363 (wr g l)) 921 352 (nI l.length)
theorem Sh_CW {S : gk_S} (h : Sh S) (g : Nat → Int32) (l : List Nat) : Sh (CW S g l) := Sh_sI (Sh_rI h _ _) _ _ _
theorem Sh_MW {S : gk_S} (h : Sh S) (g : Nat → Int32) (l : List Nat) : Sh (MW S g l) := Sh_sI (Sh_rI h _ _) _ _ _
section OUT
variable {S : gk_S} {F : Nat} {g : Nat → Int32} {l : List Nat}
theorem w_add (h : Sh S) (hl : l.length < 3000) (x : Int32) : f_X2_add F (CW S g l) 3 x = some ((), CW S g (l ++ [un x % 256])) := by
  unfold CW
  rw [o_add (outH h) hl, wr_add, List.length_append, List.length_singleton]
theorem w_pair (h : Sh S) (hl : l.length + 2 ≤ 3000) (x : Int32) : f_X2_addPair F (CW S g l) 3 x = some ((), CW S g (l ++ [un x / 256 % 256, un x % 256])) := by
  unfold f_X2_addPair
  rw [qv_eq, z_i3 (Sh_CW h _ _), qk_true, w_add h (by omega), qc_some', z_i3 (Sh_CW h _ _), qk_true, w_add h (by rw [List.length_append, List.length_singleton]; omega), qc_some', un_ushr8, List.append_assoc]
  rfl
theorem w_quad (h : Sh S) (hl : l.length + 4 ≤ 3000) (x : Int32) : f_X2_addQuad F (CW S g l) 3 x = some ((), CW S g (l ++ [un x / 16777216 % 256, un x / 65536 % 256, un x / 256 % 256, un x % 256])) := by
  unfold f_X2_addQuad
  rw [qv_eq, z_i3 (Sh_CW h _ _), qk_true, w_pair h (by omega), qc_some', z_i3 (Sh_CW h _ _), qk_true, w_pair h (by rw [List.length_append]; simp only [List.length]; omega), qc_some', un_ushr16, List.append_assoc, Nat.div_div_eq_div_mul]
  rfl
theorem v_put (h : Sh S) (hl : l.length < 3000) (x : Int32) : f_X12_put F (MW S g l) 352 x = some ((), MW S g (l ++ [un x % 256])) := by
  have H := Sh_MW h g l
  have e1 : gI (MW S g l) 921 352 = nI l.length := rd_eq _ _ _ _
  have e2 : wB (MW S g l) 363 (nI l.length) x.toInt8.toInt32 = sI (rI S 363 (wr g (l ++ [un x % 256]))) 921 352 (nI l.length) := by
    unfold wB MW
    have e3 : xI (sI (rI S 363 (wr g l)) 921 352 (nI l.length)) 363 = wr g l := rfl
    rw [e3, nI_clamp (by omega), rI_sI, rI_rI, show x.toInt8.toInt32.toInt8.toInt32 = b8 x from b8_b8 x, wr_add]
  unfold f_X12_put
  rw [z_i352 H, qk_true, z_p920_352 H, qP_some', qv_eq, e1, z_i363 H, qk_true, z_l363 H, inb_n hl (by omega), qk_true, qv_eq, e2, qv_eq, rd_eq, qv_eq, sI_sI, nI_1]
  unfold MW
  rw [List.length_append, List.length_singleton]
theorem v_two (h : Sh S) (hl : l.length + 2 ≤ 3000) (x : Int32) : f_X12_putTwo F (MW S g l) 352 x = some ((), MW S g (l ++ [un x / 256 % 256, un x % 256])) := by
  have e : un (x >>> ((8 : Int32) &&& 31)) % 256 = un x / 256 % 256 := un_sshr x (k := 8) (by omega)
  unfold f_X12_putTwo
  rw [z_i352 (Sh_MW h _ _), qk_true, v_put h (by omega), qc_some', z_i352 (Sh_MW h _ _), qk_true, v_put h (by rw [List.length_append, List.length_singleton]; omega), qc_some', e, List.append_assoc]
  rfl
theorem wr_set (g : Nat → Int32) (l : List Nat) {k : Nat} (hk : k < l.length) (x : Int32) : upd (wr g l) k (b8 x) = wr g (l.set k (un x % 256)) := by
  funext i
  unfold upd wr
  rw [List.length_set]
  by_cases q : i = k
  · subst q
    rw [if_pos rfl, if_pos hk, b8_un, List.getD_eq_getElem?_getD, List.getElem?_set_self hk]
    rfl
  · rw [if_neg q]
    by_cases q1 : i < l.length
    · rw [if_pos q1, if_pos q1, List.getD_eq_getElem?_getD, List.getD_eq_getElem?_getD, List.getElem?_set_ne (fun e => q e.symm)]
    · rw [if_neg q1, if_neg q1]
theorem bt_wr (g : Nat → Int32) {l : List Nat} {i : Nat} (hi : i < l.length) (h : l.getD i 0 < 256) : bt (wr g l) i = l.getD i 0 := by
  unfold bt wr
  rw [if_pos hi]
  have : ∀ v, v < 256 → un (b8 (nI v) &&& 255) = v := by decide +kernel
  exact this _ h
end OUT
