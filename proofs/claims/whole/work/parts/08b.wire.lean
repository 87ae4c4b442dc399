/-! what is wrong with a datagram -/
def hdr (g : Nat → Int32) (q : Nat) : Nat := bt g q % 16 * 4
def okf (b : Nat) : Bool := decide (69 ≤ b ∧ b ≤ 79)
def hsb (p : Nat) : Bool := decide (p = 6 ∨ p = 17 ∨ p = 1)
def whl (g : Nat → Int32) (m T : Nat) : Bool := if bt g 9 = 1 then decide (8 ≤ m - T) else if bt g 9 = 6 then decide (20 ≤ m - T ∧ 5 ≤ bt g (T + 12) / 16 ∧ 4 * (bt g (T + 12) / 16) ≤ m - T) else if bt g 9 = 17 then decide (8 ≤ m - T ∧ wd g (T + 4) = m - T) else true
def sed (g : Nat → Int32) (m T : Nat) : Nat := if bt g 9 = 6 ∨ bt g 9 = 17 then wd g 12 + wd g 14 + wd g 16 + wd g 18 + bt g 9 + (m - T) else 0
def smd (g : Nat → Int32) (m T : Nat) : Bool := !hsb (bt g 9) || (decide (bt g 9 = 17) && decide (wd g (T + 6) = 0)) || decide (fd (fd (sed g m T + rsm g m T)) = 65535)
def flt (g : Nat → Int32) (m : Nat) : Nat := if m < 20 then 1 else if okf (bt g 0) = false then 2 else if ¬ wd g 2 = m ∨ m < hdr g 0 then 3 else if ¬ fd (fd (rsm g (hdr g 0) 0)) = 65535 then 4 else if ¬ bt g 6 % 64 = 0 ∨ ¬ bt g 7 = 0 then 5 else if whl g m (hdr g 0) = false then 6 else if smd g m (hdr g 0) = false then 7 else 0
def spl (p : Nat) : Nat := if p = 6 then 16 else if p = 17 then 6 else 2
def fpl (g : Nat → Int32) (m : Nat) : Nat := if flt g m = 1 then m else if flt g m = 2 then 0 else if flt g m = 3 then 2 else if flt g m = 4 then 10 else if flt g m = 5 then 6 else if flt g m = 6 then hdr g 0 else if flt g m = 7 then hdr g 0 + spl (bt g 9) else 0
theorem flt_lt (g : Nat → Int32) (m : Nat) : flt g m < 8 := by
  unfold flt
  repeat' split
  all_goals omega
theorem hdr_lt (g : Nat → Int32) (q : Nat) : hdr g q ≤ 60 := by unfold hdr; omega
section WIRE
variable {S : gk_S} {F m : Nat} {g : Nat → Int32}
theorem k_isF {b : Nat} (hb : b < 256) : f_X10_isFirst F S (nI b) = some (bI (okf b), S) := by
  simp only [f_X10_isFirst, show nI b < 69 ↔ b < 69 from nI_ltI (b := 69) (by omega) (by omega), show (79 : Int32) < nI b ↔ 79 < b from nI_ltI (a := 79) (by omega) (by omega)]
  unfold okf
  by_cases q1 : b < 69
  · rw [if_pos q1, decide_eq_false (by omega)]; rfl
  · rw [if_neg q1]
    by_cases q2 : 79 < b
    · rw [if_pos q2, decide_eq_false (by omega)]; rfl
    · rw [if_neg q2, decide_eq_true (by omega)]; rfl
theorem k_hdr {b : Nat} (hb : b < 256) : f_X10_headerOf F S (nI b) = some (nI (b % 16 * 4), S) := by
  unfold f_X10_headerOf
  rw [show nI b &&& 15 = nI (b % 16) from pk_andN (by omega) 4 (by decide), show (4 : Int32) = nI 4 from rfl, pk_mul]
theorem k_hdr0 (g : Nat → Int32) (q : Nat) : f_X10_headerOf F S (nI (bt g q)) = some (nI (hdr g q), S) := k_hdr (bt_lt g q)
theorem k_hsb {p : Nat} (hp : p < 256) : f_X10_hasBody F S (nI p) = some (bI (hsb p), S) := by
  simp only [f_X10_hasBody, show nI p = 6 ↔ p = 6 from nI_eq (b := 6) (by omega) (by omega), show nI p = 17 ↔ p = 17 from nI_eq (b := 17) (by omega) (by omega), show nI p = 1 ↔ p = 1 from nI_eq (b := 1) (by omega) (by omega)]
  unfold hsb
  by_cases q1 : p = 6
  · rw [if_pos q1, decide_eq_true (by omega)]; rfl
  rw [if_neg q1]
  by_cases q2 : p = 17
  · rw [if_pos q2, decide_eq_true (by omega)]; rfl
  rw [if_neg q2]
  by_cases q3 : p = 1
  · rw [if_pos q3, decide_eq_true (by omega)]; rfl
  · rw [if_neg q3, decide_eq_false (by omega)]; rfl
theorem k_whole (h : CO S 1 g m) (hm : m ≤ 2100) (h20 : 20 ≤ m) {T : Nat} (hT : T ≤ m) : f_X10_isWhole F S 1 (nI T) = some (bI (whl g m T), S) := by
  have b9 := bt_lt g 9
  have a9 : f_X2_at F S 1 9 = some (nI (bt g 9), S) := h.1 F 9 (by omega)
  simp only [f_X10_isWhole, qk_true, qk_false, qv_eq, qP_some', qP_none, qc_some', qc_none, qx_inl', qx_inr', qh_inl', qh_inr', h.2.2.1, h.2.2.2.1, a9, show nI (bt g 9) = 1 ↔ bt g 9 = 1 from nI_eq (b := 1) (by omega) (by omega), show nI (bt g 9) = 6 ↔ bt g 9 = 6 from nI_eq (b := 6) (by omega) (by omega), show nI (bt g 9) = 17 ↔ bt g 9 = 17 from nI_eq (b := 17) (by omega) (by omega), pk_sub hT, show nI (m - T) < 8 ↔ m - T < 8 from nI_ltI (b := 8) (by omega) (by omega), show nI (m - T) < 20 ↔ m - T < 20 from nI_ltI (b := 20) (by omega) (by omega), show nI T + 12 = nI (T + 12) from nI_add T 12, show nI T + 4 = nI (T + 4) from nI_add T 4]
  unfold whl
  by_cases c1 : bt g 9 = 1
  · rw [if_pos c1, if_pos c1]
    by_cases q : m - T < 8
    · rw [if_pos q, decide_eq_false (by omega)]; rfl
    · rw [if_neg q, decide_eq_true (by omega)]; rfl
  rw [if_neg c1, if_neg c1]
  by_cases c6 : bt g 9 = 6
  · rw [if_pos c6, if_pos c6]
    by_cases q : m - T < 20
    · have e0 : ∃ v, f_X2_at F S 1 (nI (T + 12)) = some (v, S) := by
        by_cases r : T + 12 < m
        · exact ⟨_, h.1 F _ r⟩
        · exact ⟨_, h.2.1 F _ (by omega) (by omega)⟩
      obtain ⟨v, e0⟩ := e0
      simp only [e0, qk_true, qk_false, qv_eq, qP_some', qP_none, qc_some', qc_none, qx_inl', qx_inr', qh_inl', qh_inr', if_pos q, decide_eq_false (show ¬ (20 ≤ m - T ∧ 5 ≤ bt g (T + 12) / 16 ∧ 4 * (bt g (T + 12) / 16) ≤ m - T) by omega)]
      rfl
    · have b12 := bt_lt g (T + 12)
      have es : nI (bt g (T + 12)) >>> ((4 : Int32) &&& 31) = nI (bt g (T + 12) / 16) := pk_shrN (by omega) _ 4 (by decide)
      have em : nI (bt g (T + 12) / 16) * 4 = nI (4 * (bt g (T + 12) / 16)) := by rw [show (4 : Int32) = nI 4 from rfl, pk_mul, Nat.mul_comm]
      simp only [h.1 F (T + 12) (by omega), qk_true, qk_false, qv_eq, qP_some', qP_none, qc_some', qc_none, qx_inl', qx_inr', qh_inl', qh_inr', if_neg q, es, em, show nI (bt g (T + 12) / 16) < 5 ↔ bt g (T + 12) / 16 < 5 from nI_ltI (b := 5) (by omega) (by omega), show nI (m - T) < nI (4 * (bt g (T + 12) / 16)) ↔ m - T < 4 * (bt g (T + 12) / 16) from nI_ltI (by omega) (by omega)]
      by_cases q5 : bt g (T + 12) / 16 < 5
      · rw [if_pos q5, decide_eq_false (by omega)]; rfl
      · rw [if_neg q5]
        by_cases q6 : m - T < 4 * (bt g (T + 12) / 16)
        · rw [if_pos q6, decide_eq_false (by omega)]; rfl
        · rw [if_neg q6, decide_eq_true (by omega)]; rfl
  rw [if_neg c6, if_neg c6]
  by_cases c17 : bt g 9 = 17
  · rw [if_pos c17, if_pos c17]
    by_cases q : m - T < 8
    · rw [if_pos q, decide_eq_false (by omega)]; rfl
    · rw [if_neg q]
      have w4 := wd_lt g (T + 4)
      simp only [k_pair h (by omega : T + 4 + 1 < m), qk_true, qk_false, qv_eq, qP_some', qP_none, qc_some', qc_none, qx_inl', qx_inr', qh_inl', qh_inr', show nI (wd g (T + 4)) = nI (m - T) ↔ wd g (T + 4) = m - T from nI_eq (by omega) (by omega)]
      by_cases q2 : wd g (T + 4) = m - T
      · rw [if_pos q2, decide_eq_true (by omega)]; rfl
      · rw [if_neg q2, decide_eq_false (by omega)]; rfl
  · rw [if_neg c17, if_neg c17]; rfl
theorem sed_lt (g : Nat → Int32) {m T : Nat} (hm : m ≤ 2100) : sed g m T < 1000000 := by
  have := wd_lt g 12
  have := wd_lt g 14
  have := wd_lt g 16
  have := wd_lt g 18
  have := bt_lt g 9
  unfold sed
  split <;> omega
theorem k_seed (h : CO S 1 g m) (hm : m ≤ 2100) (h20 : 20 ≤ m) {T : Nat} (hT : T ≤ m) : f_X10_seed F S 1 (nI T) = some (nI (sed g m T), S) := by
  have b9 := bt_lt g 9
  have a9 : f_X2_at F S 1 9 = some (nI (bt g 9), S) := h.1 F 9 (by omega)
  have p12 : f_X2_pair F S 1 12 = some (nI (wd g 12), S) := k_pair h (by omega : 12 + 1 < m)
  have p14 : f_X2_pair F S 1 14 = some (nI (wd g 14), S) := k_pair h (by omega : 14 + 1 < m)
  have p16 : f_X2_pair F S 1 16 = some (nI (wd g 16), S) := k_pair h (by omega : 16 + 1 < m)
  have p18 : f_X2_pair F S 1 18 = some (nI (wd g 18), S) := k_pair h (by omega : 18 + 1 < m)
  have s21 : f_X10_seed_21 F 1 (nI T) (nI (bt g 9)) S = some (nI (wd g 12 + wd g 14 + wd g 16 + wd g 18 + bt g 9 + (m - T)), S) := by
    simp only [f_X10_seed_21, qk_true, qk_false, qv_eq, qP_some', qP_none, qc_some', qc_none, qx_inl', qx_inr', qh_inl', qh_inr', h.2.2.1, h.2.2.2.1, p12, p14, p16, p18, nI_add]
    rw [pk_sub (by omega)]
    congr 3
    omega
  simp only [f_X10_seed, qk_true, qk_false, qv_eq, qP_some', qP_none, qc_some', qc_none, qx_inl', qx_inr', qh_inl', qh_inr', h.2.2.1, a9, show nI (bt g 9) = 6 ↔ bt g 9 = 6 from nI_eq (b := 6) (by omega) (by omega), show nI (bt g 9) = 17 ↔ bt g 9 = 17 from nI_eq (b := 17) (by omega) (by omega), s21]
  unfold sed
  by_cases c6 : bt g 9 = 6
  · rw [if_pos c6, if_pos (Or.inl c6)]
  rw [if_neg c6]
  by_cases c17 : bt g 9 = 17
  · rw [if_pos c17, if_pos (Or.inr c17)]
  · rw [if_neg c17, if_neg (by omega)]; rfl
theorem k_smd (h : CO S 1 g m) (hF : 16400 ≤ F) (hm : m ≤ 2100) (h20 : 20 ≤ m) {T : Nat} (hT : T ≤ m) (hw : whl g m T = true) : f_X10_isSummed F S 1 (nI T) = some (bI (smd g m T), S) := by
  have b9 := bt_lt g 9
  have a9 : f_X2_at F S 1 9 = some (nI (bt g 9), S) := h.1 F 9 (by omega)
  have sl := sed_lt g (T := T) hm
  have fl : fd (fd (sed g m T + rsm g m T)) < 2 ^ 31 := by
    have := rsm_le g m T
    unfold fd
    omega
  have s33 : f_X10_isSummed_33 F 1 (nI T) S = some (bI (decide (fd (fd (sed g m T + rsm g m T)) = 65535)), S) := by
    simp only [f_X10_isSummed_33, qk_true, qk_false, qv_eq, qP_some', qP_none, qc_some', qc_none, qx_inl', qx_inr', qh_inl', qh_inr', h.2.2.1, h.2.2.2.1, k_seed h hm h20 hT, k_sum h hF (Nat.le_refl m) hT (by omega) sl, show nI (fd (fd (sed g m T + rsm g m T))) = 65535 ↔ fd (fd (sed g m T + rsm g m T)) = 65535 from nI_eq (b := 65535) fl (by omega)]
    by_cases q : fd (fd (sed g m T + rsm g m T)) = 65535
    · rw [if_pos q, decide_eq_true q]; rfl
    · rw [if_neg q, decide_eq_false q]; rfl
  simp only [f_X10_isSummed, qk_true, qk_false, qv_eq, qP_some', qP_none, qc_some', qc_none, qx_inl', qx_inr', qh_inl', qh_inr', h.2.2.1, a9, k_hsb b9, bI0, show nI (bt g 9) = 17 ↔ bt g 9 = 17 from nI_eq (b := 17) (by omega) (by omega), s33]
  unfold smd
  cases hb : hsb (bt g 9)
  · rw [if_pos rfl]; rfl
  · rw [if_neg (by decide)]
    by_cases c17 : bt g 9 = 17
    · have l8 : T + 8 ≤ m := by
        unfold whl at hw
        rw [if_neg (by omega), if_neg (by omega), if_pos c17] at hw
        have := of_decide_eq_true hw
        omega
      have w6 := wd_lt g (T + 6)
      rw [if_pos c17, decide_eq_true c17]
      simp only [show nI T + 6 = nI (T + 6) from nI_add T 6, k_pair h (by omega : T + 6 + 1 < m), qk_true, qk_false, qv_eq, qP_some', qP_none, qc_some', qc_none, qx_inl', qx_inr', qh_inl', qh_inr', show nI (wd g (T + 6)) = 0 ↔ wd g (T + 6) = 0 from nI_eq (b := 0) (by omega) (by omega), s33]
      by_cases q : wd g (T + 6) = 0
      · rw [if_pos q, decide_eq_true q]; rfl
      · rw [if_neg q, decide_eq_false q]; rfl
    · rw [if_neg c17, decide_eq_false c17]; rfl
end WIRE
