/-! texts -/
def tlen (i : Nat) : Nat := (gk_s i).2.2.2.length
def tch (i k : Nat) : Int32 := (gk_s i).2.2.2.getD k 0
def txt (i : Nat) : List Nat := (gk_s i).2.2.2.map fun v => un v % 256
set_option maxRecDepth 100000 in
theorem tx_ok : ∀ i, i < 34 → tlen i ≤ 200 ∧ (gk_s i).2.2.2.all (fun v => decide ((((v &&& 255) : Int32).toUInt32 % 65536).toInt32 = v ∧ chb v = true ∧ un v < 128)) = true := by decide +kernel
theorem tch_ok {i k : Nat} (hi : i < 34) (hk : k < tlen i) : ((((tch i k &&& 255) : Int32).toUInt32 % 65536).toInt32) = tch i k ∧ chb (tch i k) = true ∧ un (tch i k) < 128 := by
  have h := List.all_eq_true.mp (tx_ok i hi).2 (tch i k) (by
    unfold tch
    rw [List.getD_eq_getElem?_getD, List.getElem?_eq_getElem hk]
    exact List.getElem_mem hk)
  exact of_decide_eq_true h
section TXT
variable {S : gk_S} {F : Nat} {g : Nat → Int32} {l : List Nat}
theorem j_len {i : Nat} (hi : i < 34) : f_J0_length_8abf5 F S i = some (nI (tlen i), S) := by
  have hl := (tx_ok i hi).1
  have e : Int32.ofNat (gk_s i).2.2.2.length >>> ((0 : Int32) &&& 31) = nI (tlen i) := sc_shr0 (n := tlen i) (by omega)
  unfold f_J0_length_8abf5 f_J0_coder_7d493
  rw [ltb_of hi, qk_true, qk_true, qc_some', qv_eq, e]
theorem j_char {i k : Nat} (hi : i < 34) (hk : k < tlen i) : f_J0_charAt_5068e F S i (nI k) = some (tch i k, S) := by
  have hl := (tx_ok i hi).1
  have t := tch_ok hi hk
  have ci : f_J0_checkIndex_df160 F S (nI k) (Int32.ofNat (gk_s i).2.2.2.length) = some ((), S) := by
    unfold f_J0_checkIndex_df160 f_J3_checkIndex_8e157
    rw [if_neg (nI_pos (by omega)), if_pos (show nI k < Int32.ofNat (gk_s i).2.2.2.length from nI_lt (b := tlen i) hk (by omega)), qc_some']
  have ed : (gk_s i).2.2.2.getD (nI k).toNatClampNeg 0 = tch i k := by
    rw [nI_clamp (by omega)]
    rfl
  unfold f_J0_charAt_5068e f_J0_isLatin1_aae02 f_J1_charAt_3b067
  rw [ltb_of hi, qk_true, qk_true, qc_some', if_neg (by decide), qk_true, ci, qc_some', show inb (nI k) ((gk_s i).2.2.2.length) = true from inb_n (n := tlen i) hk (by omega), qk_true, qv_eq, ed, t.1, t.2.1, qk_true, qc_some', t.2.1, qk_true]
theorem txt_len (i : Nat) : (txt i).length = tlen i := by unfold txt tlen; rw [List.length_map]
theorem txt_drop {i k : Nat} (hk : k < tlen i) : (txt i).drop k = un (tch i k) % 256 :: (txt i).drop (k + 1) := by
  rw [List.drop_eq_getElem_cons (by rw [txt_len]; exact hk)]
  congr 1
  unfold txt
  rw [List.getElem_map]
  congr 2
  unfold tch
  rw [List.getD_eq_getElem?_getD, List.getElem?_eq_getElem hk]
  rfl
theorem w_text2 (h : Sh S) {i : Nat} (hi : i < 34) : ∀ d k fu (l : List Nat), k + d = tlen i → d < fu → l.length + d ≤ 3000 → f_X2_addText_2 F fu 3 i (nI k) (CW S g l) = some ((), CW S g (l ++ (txt i).drop k)) := by
  have hl := (tx_ok i hi).1
  intro d
  induction d with
  | zero =>
    intro k fu l h1 h2 h3
    obtain ⟨fu, rfl⟩ : ∃ q, fu = q + 1 := ⟨fu - 1, by omega⟩
    rw [f_X2_addText_2, ltb_of hi, qk_true, j_len hi, qc_some', if_pos (nI_le (by omega) (by omega)), List.drop_of_length_le (by rw [txt_len]; omega), List.append_nil]
  | succ d ih =>
    intro k fu l h1 h2 h3
    obtain ⟨fu, rfl⟩ : ∃ q, fu = q + 1 := ⟨fu - 1, by omega⟩
    rw [f_X2_addText_2, ltb_of hi, qk_true, j_len hi, qc_some', if_neg (nI_ge (by omega) (by omega)), j_char hi (by omega), qc_some', z_i3 (Sh_CW h _ _), qk_true, w_add h (by omega), qc_some', nI_1, ih (k + 1) fu _ (by omega) (by omega) (by rw [List.length_append, List.length_singleton]; omega), txt_drop (i := i) (k := k) (by omega), List.append_assoc]
    rfl
theorem w_text (h : Sh S) (hF : 16400 ≤ F) {i : Nat} (hi : i < 34) (hl : l.length + tlen i ≤ 3000) : f_X2_addText F (CW S g l) 3 i = some ((), CW S g (l ++ txt i)) := by
  have t := (tx_ok i hi).1
  unfold f_X2_addText
  rw [ltb_of hi, qk_true]
  exact w_text2 h hi (tlen i) 0 F l (by omega) (by omega) hl
/-- the model's word w -/
def wrd (w : Nat) : List Nat := ((txt 33).drop (wat w)).take (wsz w)
set_option maxRecDepth 100000 in
theorem wrd_ok : ∀ w, w < 18 → wat w + wsz w < tlen 33 ∧ wsz w ≤ 11 ∧ (wrd w).length = wsz w := by decide +kernel
theorem wrd_drop {w k : Nat} (hw : w < 18) (hk : k < wsz w) : (wrd w).drop k = un (tch 33 (wat w + k)) % 256 :: (wrd w).drop (k + 1) := by
  have o := wrd_ok w hw
  rw [List.drop_eq_getElem_cons (by omega)]
  congr 1
  unfold wrd
  rw [List.getElem_take, List.getElem_drop]
  unfold txt
  rw [List.getElem_map]
  congr 2
  unfold tch
  rw [List.getD_eq_getElem?_getD, List.getElem?_eq_getElem (show wat w + k < (gk_s 33).2.2.2.length by have := o.1; unfold tlen at this; omega)]
  rfl
theorem v_word2 (h : Sh S) (wd9 : Wd S) {w : Nat} (hw : w < 18) : ∀ d k fu (l : List Nat), k + d = wsz w → d < fu → l.length + d ≤ 3000 → f_X12_putWord_2 F fu 352 (nI w) (nI k) (MW S g l) = some ((), MW S g (l ++ (wrd w).drop k)) := by
  have o := wrd_ok w hw
  have Z := fun l => Sh_MW h g l
  have a1 : ∀ l, aI (MW S g l) 361 (nI w) = nI (wat w) := fun l => by
    have : aI (MW S g l) 361 (nI w) = xI S 361 w := by unfold aI; rw [nI_clamp (by omega)]; rfl
    rw [this, (wd9 w hw).1]
  have a2 : ∀ l, aI (MW S g l) 362 (nI w) = nI (wsz w) := fun l => by
    have : aI (MW S g l) 362 (nI w) = xI S 362 w := by unfold aI; rw [nI_clamp (by omega)]; rfl
    rw [this, (wd9 w hw).2]
  intro d
  induction d with
  | zero =>
    intro k fu l h1 h2 h3
    obtain ⟨fu, rfl⟩ : ∃ q, fu = q + 1 := ⟨fu - 1, by omega⟩
    rw [f_X12_putWord_2, z_i352 (Z _), qk_true, z_p913_352 (Z _), qP_some', z_i362 (Z _), qk_true, z_l362 (Z _), inb_n hw (by omega), qk_true, qv_eq, a2, if_pos (nI_le (by omega) (by omega)), List.drop_of_length_le (by omega), List.append_nil]
  | succ d ih =>
    intro k fu l h1 h2 h3
    obtain ⟨fu, rfl⟩ : ∃ q, fu = q + 1 := ⟨fu - 1, by omega⟩
    have t33 := (tx_ok 33 (by omega)).1
    rw [f_X12_putWord_2, z_i352 (Z _), qk_true, z_p913_352 (Z _), qP_some', z_i362 (Z _), qk_true, z_l362 (Z _), inb_n hw (by omega), qk_true, qv_eq, a2, if_neg (nI_ge (by omega) (by omega)), z_p912_352 (Z _), qP_some', z_i361 (Z _), qk_true, z_l361 (Z _), inb_n hw (by omega), qk_true, qv_eq, a1, nI_add, j_char (by omega) (by omega), qc_some', z_i352 (Z _), qk_true, v_put h (by omega), qc_some', nI_1, ih (k + 1) fu _ (by omega) (by omega) (by rw [List.length_append, List.length_singleton]; omega), wrd_drop (k := k) hw (by omega), List.append_assoc]
    rfl
theorem v_word (h : Sh S) (hF : 16400 ≤ F) (wd9 : Wd S) {w : Nat} (hw : w < 18) (hl : l.length + wsz w ≤ 3000) : f_X12_putWord F (MW S g l) 352 (nI w) = some ((), MW S g (l ++ wrd w)) := by
  have o := wrd_ok w hw
  exact v_word2 h wd9 hw (wsz w) 0 F l (by omega) (by omega) hl
end TXT
