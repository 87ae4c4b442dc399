/-! phases -/
def sgn (fl : Nat) : Nat := if fl / 4 % 2 = 1 then 0 else if fl / 2 % 2 = 1 then (if fl / 16 % 2 = 1 then 2 else 1) else if fl % 2 = 1 then 3 else if fl / 16 % 2 = 1 then 4 else 5
theorem fl_bits : ∀ fl, fl < 64 → ((nI fl &&& 4 = 0 ↔ ¬ fl / 4 % 2 = 1) ∧ (nI fl &&& 2 = 0 ↔ ¬ fl / 2 % 2 = 1) ∧ (nI fl &&& 1 = 0 ↔ ¬ fl % 2 = 1) ∧ (nI fl &&& 16 = 0 ↔ ¬ fl / 16 % 2 = 1)) ∧ ((nI fl &&& 4 ≤ 0 ↔ ¬ fl / 4 % 2 = 1) ∧ (nI fl &&& 2 ≤ 0 ↔ ¬ fl / 2 % 2 = 1) ∧ (nI fl &&& 1 ≤ 0 ↔ ¬ fl % 2 = 1) ∧ (nI fl &&& 16 ≤ 0 ↔ ¬ fl / 16 % 2 = 1)) := by decide +kernel
theorem sgn_lt (fl : Nat) : sgn fl < 6 := by
  unfold sgn
  repeat' split
  all_goals omega
theorem k_sign {S : gk_S} {F fl : Nat} (h : fl < 64) : f_X4_signOf F S (nI fl) = some (nI (sgn fl), S) := by
  obtain ⟨⟨e1, e2, e3, e4⟩, -⟩ := fl_bits fl h
  simp only [f_X4_signOf, e1, e2, e3, e4, sgn]
  by_cases q1 : fl / 4 % 2 = 1
  · simp only [q1, not_true_eq_false, if_false, if_true]; rfl
  by_cases q2 : fl / 2 % 2 = 1
  · by_cases q4 : fl / 16 % 2 = 1
    · simp only [q1, q2, q4, not_true_eq_false, not_false_eq_true, if_false, if_true]; rfl
    · simp only [q1, q2, q4, not_true_eq_false, not_false_eq_true, if_false, if_true]; rfl
  by_cases q3 : fl % 2 = 1
  · simp only [q1, q2, q3, not_true_eq_false, not_false_eq_true, if_false, if_true]; rfl
  by_cases q4 : fl / 16 % 2 = 1
  · simp only [q1, q2, q3, q4, not_true_eq_false, not_false_eq_true, if_false, if_true]; rfl
  · simp only [q1, q2, q3, q4, not_true_eq_false, not_false_eq_true, if_false, if_true]; rfl
def ltr (s : Nat) : Int32 := [82, 83, 66, 70, 65, 78].getD s 0
theorem m_letter {S : gk_S} {F fl : Nat} (h : fl < 64) : f_X12_letter F S (nI fl) = some (ltr (sgn fl), S) := by
  obtain ⟨-, e1, e2, e3, e4⟩ := fl_bits fl h
  simp only [f_X12_letter, f_X12_letter_11, f_X12_letter_24, e1, e2, e3, e4, sgn]
  by_cases q1 : fl / 4 % 2 = 1 <;> by_cases q2 : fl / 2 % 2 = 1 <;> by_cases q3 : fl % 2 = 1 <;> by_cases q4 : fl / 16 % 2 = 1 <;> simp only [q1, q2, q3, q4, not_true_eq_false, not_false_eq_true, if_false, if_true, one_ne] <;> rfl
def bhT (j : Nat) : Nat := [0, 1, 0, 0, 0, 0, 7, 0, 2, 0, 0, 0, 7, 2, 0, 4, 3, 0, 7, 0, 2, 0, 0, 0, 7, 0, 0, 4, 3, 0, 7, 0, 0, 4, 3, 0, 7, 0, 0, 4, 4, 0, 7, 0, 0, 5, 4, 0, 7, 0, 0, 5, 6, 0, 7, 0, 0, 5, 5, 0, 7, 1, 0, 6, 6, 0, 7, 0, 0, 6, 6, 0, 7, 1, 0, 0, 0, 0, 7, 0, 0, 0, 0, 0].getD (j % 84) 0
theorem bhT_ok : ∀ j, j < 84 → gk_beh j = nI (bhT j) ∧ bhT j < 8 := by decide +kernel
def bh (ph sd ff sg : Nat) : Nat := bhT ((2 * (ph - 1) + (if sd = (if ph = 4 ∨ ph = 5 then ff else 1) then 0 else 1)) * 6 + sg)
def neg0 (b : Nat) : Int32 := if b = 0 then -1 else nI b
theorem k_b46 {S : gk_S} {F fl e r : Nat} (h : fl < 64) (he : r + e < 14) : f_X4_behind_46 F (nI fl) (nI e) (nI r) S = some (neg0 (bhT ((r + e) * 6 + sgn fl)), S) := by
  have g := sgn_lt fl
  have b := bhT_ok ((r + e) * 6 + sgn fl) (by omega)
  have a1 : ((nI r + nI e) * 6) + nI (sgn fl) = nI ((r + e) * 6 + sgn fl) := by rw [show (6 : Int32) = nI 6 from rfl, nI_add, pk_mul, nI_add]
  simp only [f_X4_behind_46, k_sign h, qk_true, qk_false, qv_eq, qP_some', qP_none, qc_some', qc_none, qx_inl', qx_inr', qh_inl', qh_inr', a1, inb_n (by omega : (r + e) * 6 + sgn fl < 84) (by omega), nI_clamp (by omega : (r + e) * 6 + sgn fl < 2 ^ 31), b.1, show nI (bhT ((r + e) * 6 + sgn fl)) = 0 ↔ bhT ((r + e) * 6 + sgn fl) = 0 from nI_eq (b := 0) (by omega) (by omega), neg0]
  by_cases q : bhT ((r + e) * 6 + sgn fl) = 0
  · rw [if_pos q, if_pos q]
  · rw [if_neg q, if_neg q]
theorem k_b28 {S : gk_S} {F fl ph sd up : Nat} (h : fl < 64) (h1 : 1 ≤ ph) (h7 : ph ≤ 7) (hs : sd ≤ 2) (hu : up ≤ 2) : f_X4_behind_28 F (nI ph) (nI fl) (nI sd) (nI up) S = some (neg0 (bhT ((2 * (ph - 1) + (if sd = up then 0 else 1)) * 6 + sgn fl)), S) := by
  have a1 : 2 * (nI ph - 1) = nI (2 * (ph - 1)) := by rw [show (1 : Int32) = nI 1 from rfl, show (2 : Int32) = nI 2 from rfl, pk_sub h1, pk_mul]
  have b0 := k_b46 (S := S) (F := F) (fl := fl) (e := 0) (r := 2 * (ph - 1)) h (by omega)
  have b1 := k_b46 (S := S) (F := F) (fl := fl) (e := 1) (r := 2 * (ph - 1)) h (by omega)
  rw [show nI 0 = 0 from rfl] at b0
  rw [show nI 1 = 1 from rfl] at b1
  simp only [f_X4_behind_28, a1, b0, b1, show nI sd = nI up ↔ sd = up from nI_eq (by omega) (by omega)]
  by_cases q : sd = up
  · rw [if_pos q, if_pos q]
  · rw [if_neg q, if_neg q]
theorem k_behind {S : gk_S} {F fl ph sd ff : Nat} (h : fl < 64) (h1 : 1 ≤ ph) (h7 : ph ≤ 7) (hs : sd ≤ 2) (hf : ff ≤ 2) : f_X4_behind F S (nI ph) (nI fl) (nI sd) (nI ff) = some (neg0 (bh ph sd ff (sgn fl)), S) := by
  have g1 := k_b28 (S := S) (F := F) (up := 1) h h1 h7 hs (by omega)
  have g2 := k_b28 (S := S) (F := F) (up := ff) h h1 h7 hs hf
  rw [show nI 1 = 1 from rfl] at g1
  simp only [f_X4_behind, show ¬ nI ph < 1 from nI_nlt (b := 1) h1 (by omega), if_false, show nI ph ≤ 7 from nI_le (b := 7) h7 (by omega), if_true, show nI ph = 4 ↔ ph = 4 from nI_eq (b := 4) (by omega) (by omega), show nI ph = 5 ↔ ph = 5 from nI_eq (b := 5) (by omega) (by omega), g1, g2, bh]
  by_cases q4 : ph = 4
  · rw [if_pos q4, if_pos (Or.inl q4)]
  · rw [if_neg q4]
    by_cases q5 : ph = 5
    · rw [if_pos q5, if_pos (Or.inr q5)]
    · rw [if_neg q5, if_neg (show ¬ (ph = 4 ∨ ph = 5) from fun e => e.elim q4 q5)]
/-- the phase behind a packet, by the model: 8 where a connection begins again -/
def mph (ph sd ff sg : Nat) : Nat := if 6 ≤ ph ∧ sd = 1 ∧ sg = 1 then 8 else bh ph sd ff sg
def phP (l3 l4 l5 l6 : Int32) : Int32 := if l4 = 1 then (if l5 = 0 then (if l3 = 66 then 2 else if l3 = 82 then 7 else 0) else if l3 = 83 then 1 else 0) else if l4 = 2 then (if l3 = 82 then 7 else if l5 = 0 then (if l3 = 66 then 2 else 0) else if l3 = 83 then 2 else if l3 = 65 then 3 else if l3 = 70 then 4 else 0) else if 5 < l4 ∧ ¬ l5 = 0 ∧ l3 = 83 then 8 else if l4 = 7 then (if l3 = 82 then 7 else 0) else if l3 = 82 then 7 else if l3 = 65 ∨ l3 = 70 then (if l4 = 3 then (if l3 = 70 then 4 else 3) else if l4 = 4 then (if l3 = 70 then (if l6 = 0 then 5 else 4) else 4) else if l4 = 5 then (if l3 = 65 then (if l6 = 0 then 5 else 6) else 5) else 6) else 0
theorem m_p223 {S : gk_S} {F : Nat} (l3 l4 l6 : Int32) : f_X12_phase_223 F l3 l4 l6 S = some (if l4 = 3 then (if l3 = 70 then 4 else 3) else if l4 = 4 then (if l3 = 70 then (if l6 = 0 then 5 else 4) else 4) else if l4 = 5 then (if l3 = 65 then (if l6 = 0 then 5 else 6) else 5) else 6, S) := by
  unfold f_X12_phase_223
  repeat' split
  all_goals rfl
theorem m_p180 {S : gk_S} {F : Nat} (l3 l4 l6 : Int32) : f_X12_phase_180 F l3 l4 l6 S = some (if l4 = 7 then (if l3 = 82 then 7 else 0) else if l3 = 82 then 7 else if l3 = 65 ∨ l3 = 70 then (if l4 = 3 then (if l3 = 70 then 4 else 3) else if l4 = 4 then (if l3 = 70 then (if l6 = 0 then 5 else 4) else 4) else if l4 = 5 then (if l3 = 65 then (if l6 = 0 then 5 else 6) else 5) else 6) else 0, S) := by
  unfold f_X12_phase_180
  rw [m_p223]
  by_cases q7 : l4 = 7
  · rw [if_pos q7, if_pos q7]
    by_cases r : l3 = 82
    · rw [if_pos r, if_pos r]
    · rw [if_neg r, if_neg r]
  rw [if_neg q7, if_neg q7]
  by_cases r : l3 = 82
  · rw [if_pos r, if_pos r]
  rw [if_neg r, if_neg r]
  by_cases a1 : l3 = 65
  · rw [if_pos a1, if_pos (Or.inl a1)]
  rw [if_neg a1]
  by_cases a2 : l3 = 70
  · rw [if_pos a2, if_pos (Or.inr a2)]
  rw [if_neg a2, if_neg (fun e => e.elim a1 a2)]
theorem m_p46 {S : gk_S} {F : Nat} (l3 l4 l5 l6 : Int32) : f_X12_phase_46 F l3 l4 l5 l6 S = some (phP l3 l4 l5 l6, S) := by
  unfold f_X12_phase_46 phP
  rw [m_p180]
  by_cases q1 : l4 = 1
  · rw [if_pos q1, if_pos q1]
    repeat' split
    all_goals rfl
  rw [if_neg q1, if_neg q1]
  by_cases q2 : l4 = 2
  · rw [if_pos q2, if_pos q2]
    repeat' split
    all_goals rfl
  rw [if_neg q2, if_neg q2]
  by_cases q3 : l4 ≤ 5
  · rw [if_pos q3, if_neg (show ¬ (5 < l4 ∧ ¬ l5 = 0 ∧ l3 = 83) from fun e => absurd e.1 (Int32.not_lt.mpr q3))]
  rw [if_neg q3]
  by_cases q4 : l5 = 0
  · rw [if_pos q4, if_neg (show ¬ (5 < l4 ∧ ¬ l5 = 0 ∧ l3 = 83) from fun e => e.2.1 q4)]
  rw [if_neg q4]
  by_cases q5 : l3 = 83
  · rw [if_pos q5, if_pos (show 5 < l4 ∧ ¬ l5 = 0 ∧ l3 = 83 from ⟨Int32.not_le.mp q3, q4, q5⟩)]
  · rw [if_neg q5, if_neg (show ¬ (5 < l4 ∧ ¬ l5 = 0 ∧ l3 = 83) from fun e => q5 e.2.2)]
def phC (ph sd ff sg : Nat) : Bool := !(decide (1 ≤ ph ∧ 1 ≤ sd ∧ (ph = 4 ∨ ph = 5 → 1 ≤ ff))) || decide (phP (ltr sg) (nI ph) (if sd = 1 then 1 else 0) (if ff = sd then 1 else 0) = nI (mph ph sd ff sg) ∧ mph ph sd ff sg < 9)
set_option maxRecDepth 100000 in
theorem phC_ok : ∀ n, n < 432 → phC (n / 54) (n / 18 % 3) (n / 6 % 3) (n % 6) = true := by decide +kernel
theorem ph_tab (ph : Nat) (h1 : ph < 8) (sd : Nat) (h2 : sd < 3) (ff : Nat) (h3 : ff < 3) (sg : Nat) (h4 : sg < 6) (hp : 1 ≤ ph ∧ 1 ≤ sd ∧ (ph = 4 ∨ ph = 5 → 1 ≤ ff)) : phP (ltr sg) (nI ph) (if sd = 1 then 1 else 0) (if ff = sd then 1 else 0) = nI (mph ph sd ff sg) ∧ mph ph sd ff sg < 9 := by
  have e := phC_ok (54 * ph + 18 * sd + 6 * ff + sg) (by omega)
  rw [show (54 * ph + 18 * sd + 6 * ff + sg) / 54 = ph by omega, show (54 * ph + 18 * sd + 6 * ff + sg) / 18 % 3 = sd by omega, show (54 * ph + 18 * sd + 6 * ff + sg) / 6 % 3 = ff by omega, show (54 * ph + 18 * sd + 6 * ff + sg) % 6 = sg by omega] at e
  unfold phC at e
  rw [decide_eq_true hp, Bool.not_true, Bool.false_or] at e
  exact of_decide_eq_true e
def phC2 (ph sd ff sg : Nat) : Bool := !(decide (1 ≤ ph ∧ 1 ≤ sd ∧ (ph = 4 ∨ ph = 5 → 1 ≤ ff))) || decide ((mph ph sd ff sg = 8 → bh ph sd ff sg = 1) ∧ (bh ph sd ff sg = 1 → mph ph sd ff sg = 8 ∨ ph = 1 ∧ mph ph sd ff sg = 1) ∧ (mph ph sd ff sg ≠ 8 → mph ph sd ff sg = bh ph sd ff sg))
set_option maxRecDepth 100000 in
theorem phC_ok2 : ∀ n, n < 432 → phC2 (n / 54) (n / 18 % 3) (n / 6 % 3) (n % 6) = true := by decide +kernel
theorem ph_tab2 (ph : Nat) (h1 : ph < 8) (sd : Nat) (h2 : sd < 3) (ff : Nat) (h3 : ff < 3) (sg : Nat) (h4 : sg < 6) (hp : 1 ≤ ph ∧ 1 ≤ sd ∧ (ph = 4 ∨ ph = 5 → 1 ≤ ff)) : (mph ph sd ff sg = 8 → bh ph sd ff sg = 1) ∧ (bh ph sd ff sg = 1 → mph ph sd ff sg = 8 ∨ ph = 1 ∧ mph ph sd ff sg = 1) ∧ (mph ph sd ff sg ≠ 8 → mph ph sd ff sg = bh ph sd ff sg) := by
  have e := phC_ok2 (54 * ph + 18 * sd + 6 * ff + sg) (by omega)
  rw [show (54 * ph + 18 * sd + 6 * ff + sg) / 54 = ph by omega, show (54 * ph + 18 * sd + 6 * ff + sg) / 18 % 3 = sd by omega, show (54 * ph + 18 * sd + 6 * ff + sg) / 6 % 3 = ff by omega, show (54 * ph + 18 * sd + 6 * ff + sg) % 6 = sg by omega] at e
  unfold phC2 at e
  rw [decide_eq_true hp, Bool.not_true, Bool.false_or] at e
  exact of_decide_eq_true e
def phC3 (ph sd ff sg : Nat) : Bool := !(decide (1 ≤ ph ∧ 1 ≤ sd ∧ (ph = 4 ∨ ph = 5 → 1 ≤ ff))) || decide ((bh ph sd ff sg = 4 → ph ≠ 4 → sg = 3 ∧ (ph = 2 ∨ ph = 3)) ∧ (bh ph sd ff sg = 5 → ph = 4 ∨ ph = 5) ∧ (bh ph sd ff sg = 2 ∨ bh ph sd ff sg = 3 → ph ≤ 3) ∧ (bh ph sd ff sg = 1 → sd = 1))
set_option maxRecDepth 100000 in
theorem phC_ok3 : ∀ n, n < 432 → phC3 (n / 54) (n / 18 % 3) (n / 6 % 3) (n % 6) = true := by decide +kernel
theorem ph_tab3 (ph : Nat) (h1 : ph < 8) (sd : Nat) (h2 : sd < 3) (ff : Nat) (h3 : ff < 3) (sg : Nat) (h4 : sg < 6) (hp : 1 ≤ ph ∧ 1 ≤ sd ∧ (ph = 4 ∨ ph = 5 → 1 ≤ ff)) : (bh ph sd ff sg = 4 → ph ≠ 4 → sg = 3 ∧ (ph = 2 ∨ ph = 3)) ∧ (bh ph sd ff sg = 5 → ph = 4 ∨ ph = 5) ∧ (bh ph sd ff sg = 2 ∨ bh ph sd ff sg = 3 → ph ≤ 3) ∧ (bh ph sd ff sg = 1 → sd = 1) := by
  have e := phC_ok3 (54 * ph + 18 * sd + 6 * ff + sg) (by omega)
  rw [show (54 * ph + 18 * sd + 6 * ff + sg) / 54 = ph by omega, show (54 * ph + 18 * sd + 6 * ff + sg) / 18 % 3 = sd by omega, show (54 * ph + 18 * sd + 6 * ff + sg) / 6 % 3 = ff by omega, show (54 * ph + 18 * sd + 6 * ff + sg) % 6 = sg by omega] at e
  unfold phC3 at e
  rw [decide_eq_true hp, Bool.not_true, Bool.false_or] at e
  exact of_decide_eq_true e
theorem m_phase {S : gk_S} (h : Sh S) {F i : Nat} {c : Nat → Nat} (m : MRow S i c) (wc : WC c) (c6 : c 0 = 6) {sd sg : Nat} (h1 : 1 ≤ sd) (h2 : sd ≤ 2) (hg : sg < 6) : f_X12_phase F S 352 (nI i) (nI sd) (ltr sg) = some (nI (mph (c 5) sd (c 7) sg), S) := by
  have t5 := m_tel h m (j := 5) (by omega)
  have t7 := m_tel h m (j := 7) (by omega)
  have w := wc.2.2.2.2.2.2.2.2.2 c6
  have w7 := wc.2.2.2.2.2.2.1
  have tab := (ph_tab (c 5) (by omega) sd (by omega) (c 7) (by omega) sg hg ⟨w.1, h1, fun e => by have := w.2.2.2.1 e; omega⟩).1
  simp only [f_X12_phase, f_X12_phase_23, qk_true, qk_false, qv_eq, qP_some', qP_none, qc_some', qc_none, qx_inl', qx_inr', qh_inl', qh_inr', z_i352 h, z_p931_352 h, z_i369 h, n9, show nI (9 * i) + 5 = nI (9 * i + 5) from n9j i 5, show nI (9 * i) + 7 = nI (9 * i + 7) from n9j i 7, t5.1, t5.2, t7.1, t7.2, m_p46, show nI sd = 1 ↔ sd = 1 from nI_eq (b := 1) (by omega) (by omega), show nI (c 7) = nI sd ↔ c 7 = sd from nI_eq (by omega) (by omega)]
  rw [← tab]
  by_cases q1 : sd = 1
  · rw [if_pos q1, if_pos q1]
    by_cases q2 : c 7 = sd
    · rw [if_pos q2, if_pos q2]
    · rw [if_neg q2, if_neg q2]
  · rw [if_neg q1, if_neg q1]
    by_cases q2 : c 7 = sd
    · rw [if_pos q2, if_pos q2]
    · rw [if_neg q2, if_neg q2]
/-! states -/
def nst (p : Nat → Nat) : Nat := if p 1 = 6 then (if nI (p 6) &&& 23 = 2 then 0 else 3) else if p 1 = 1 then (if p 4 / 256 = 8 then 0 else 3) else 0
def est (c p : Nat → Nat) (sd : Nat) : Nat := if c 0 = 6 ∧ bh (c 5) sd (c 7) (sgn (p 6)) = 0 then 3 else if c 0 = 6 ∧ bh (c 5) sd (c 7) (sgn (p 6)) = 1 then 0 else if c 6 = 0 ∧ ¬ sd = 2 then 0 else 1
theorem k_phb {S : gk_S} (h : Sh S) {F q a sd : Nat} {c p : Nat → Nat} (q1 : 281 ≤ q) (q2 : q < 345) (cc : CC S q c) (wc : WC c) (pk : PK S a p) (hs : sd ≤ 2) : f_X0_phaseBehind F S q a (nI sd) = some (if c 0 = 6 then neg0 (bh (c 5) sd (c 7) (sgn (p 6))) else 0, S) := by
  have v0 := wc.1
  simp only [f_X0_phaseBehind, qk_true, qk_false, qv_eq, qP_some', qP_none, qc_some', qc_none, qx_inl', qx_inr', qh_inl', qh_inr', z_c h q1 q2, cc.1, show nI (c 0) = 6 ↔ c 0 = 6 from nI_eq (b := 6) (by omega) (by omega)]
  by_cases c6 : c 0 = 6
  · have w := wc.2.2.2.2.2.2.2.2.2 c6
    have w7 := wc.2.2.2.2.2.2.1
    have p6 := pk.2.2.2.2.2.2.2.2.2.2.2.2
    rw [if_pos c6, if_pos c6]
    simp only [qk_true, qk_false, qv_eq, qP_some', qP_none, qc_some', qc_none, qx_inl', qx_inr', qh_inl', qh_inr', cc.2.2.2.2.2.1, pk.1, pk.2.2.2.2.2.1, cc.2.2.2.2.2.2.2.1, k_behind (S := S) (F := F) (by omega : p 6 < 64) w.1 w.2.1 hs (by omega : c 7 ≤ 2)]
  · rw [if_neg c6, if_neg c6]
theorem k_state0 {S : gk_S} {F a : Nat} {p : Nat → Nat} (pk : PK S a p) : f_X8_stateOf F S 279 a (-1) = some (nI (nst p), S) := by
  have i6 := k_isOf (F := F) pk (n := 6) (by omega)
  have i1 := k_isOf (F := F) pk (n := 1) (by omega)
  have ic := k_icmp (F := F) pk
  obtain ⟨k1, k2, k3, k4, k5, k6, k7⟩ := pk
  obtain ⟨w0, w1, w2, w3, w4, w5, w6⟩ := k7
  simp only [f_X8_stateOf, if_true, f_X8_mayBegin, qk_true, qk_false, qv_eq, qP_some', qP_none, qc_some', qc_none, qx_inl', qx_inr', qh_inl', qh_inr', k1, show (6 : Int32) = nI 6 from rfl, show (1 : Int32) = nI 1 from rfl, i6, i1, ic, k6, nst, bI0, show nI (p 4 / 256) = 8 ↔ p 4 / 256 = 8 from nI_eq (b := 8) (by omega) (by omega)]
  by_cases a6 : p 1 = 6
  · rw [if_neg (by rw [decide_eq_true a6]; decide), if_pos a6]
    by_cases e : nI (p 6) &&& 23 = 2
    · rw [if_pos e, if_pos e]; rfl
    · rw [if_neg e, if_neg e]; rfl
  · rw [if_pos (decide_eq_false a6), if_neg a6]
    by_cases a1 : p 1 = 1
    · rw [if_neg (by rw [decide_eq_true a1]; decide), if_pos a1]
      by_cases e : p 4 / 256 = 8
      · rw [if_pos e, if_pos e]; rfl
      · rw [if_neg e, if_neg e]; rfl
    · rw [if_pos (decide_eq_false a1), if_neg a1]; rfl
theorem neg0_m1 {b : Nat} (h : b < 2 ^ 31) : neg0 b = -1 ↔ b = 0 := by
  unfold neg0
  by_cases q : b = 0
  · rw [if_pos q]; exact ⟨fun _ => q, fun _ => rfl⟩
  · rw [if_neg q]
    constructor
    · intro e
      have := congrArg Int32.toInt e
      rw [nI_toInt h] at this
      have e1 : (-1 : Int32).toInt = -1 := rfl
      omega
    · intro e; exact absurd e q
theorem neg0_1 {b : Nat} (h : b < 2 ^ 31) : neg0 b = 1 ↔ b = 1 := by
  unfold neg0
  by_cases q : b = 0
  · rw [if_pos q]; exact ⟨fun e => absurd e (by decide), fun e => by omega⟩
  · rw [if_neg q]; exact nI_eq (b := 1) h (by omega)
theorem bhT_lt (j : Nat) : bhT j < 8 := by
  have e := (bhT_ok (j % 84) (by omega)).2
  unfold bhT at e ⊢
  rw [Nat.mod_mod] at e
  exact e
theorem k_state1 {S : gk_S} (h : Sh S) {F a k n : Nat} {Q : Nat → Nat} {C : Nat → Nat → Nat} {p : Nat → Nat} (ct : CT S Q C n) (pk : PK S a p) (hk : k < n) : f_X8_stateOf F S 279 a (nI k) = some (nI (est (C k) p (sideN (C k) p)), S) := by
  obtain ⟨t1, t2, t3, t4⟩ := ct
  have e3 := t3 k (by omega)
  have e4 := t4 k hk
  have sl := sideN_le (C k) p
  have bl : bh (C k 5) (sideN (C k) p) (C k 7) (sgn (p 6)) < 8 := bhT_lt _
  have nk : ¬ nI k = -1 := by
    intro e
    have := congrArg Int32.toInt e
    rw [nI_toInt (by omega)] at this
    have e1 : (-1 : Int32).toInt = -1 := rfl
    omega
  have a6 := e4.1.2.2.2.2.2.1
  simp only [f_X8_stateOf, nk, if_false, qk_true, qk_false, qv_eq, qP_some', qP_none, qc_some', qc_none, qx_inl', qx_inr', qh_inl', qh_inr', z_i279 h, k_tat h (by omega : k < 64) e3.1, z_c h e3.2.1 e3.2.2, k_side h e3.2.1 e3.2.2 e4.2 e4.1 pk, k_phb h e3.2.1 e3.2.2 e4.2 e4.1 pk sl, e4.2.2.2.2.2.2.2.1, est, show nI (C k 6) = 0 ↔ C k 6 = 0 from nI_eq (b := 0) (by omega) (by omega), show nI (sideN (C k) p) = 2 ↔ sideN (C k) p = 2 from nI_eq (b := 2) (by omega) (by omega)]
  by_cases c6 : C k 0 = 6
  · simp only [c6, if_true, true_and, neg0_m1 (by omega : bh (C k 5) (sideN (C k) p) (C k 7) (sgn (p 6)) < 2 ^ 31), neg0_1 (by omega : bh (C k 5) (sideN (C k) p) (C k 7) (sgn (p 6)) < 2 ^ 31)]
    by_cases b0 : bh (C k 5) (sideN (C k) p) (C k 7) (sgn (p 6)) = 0
    · rw [if_pos b0, if_pos b0]; rfl
    rw [if_neg b0, if_neg b0]
    by_cases b1 : bh (C k 5) (sideN (C k) p) (C k 7) (sgn (p 6)) = 1
    · rw [if_pos b1, if_pos b1]; rfl
    rw [if_neg b1, if_neg b1]
    by_cases z6 : C k 6 = 0
    · by_cases s2 : sideN (C k) p = 2
      · rw [if_pos z6, if_pos s2, if_neg (fun e => e.2 s2)]; rfl
      · rw [if_pos z6, if_neg s2, if_pos ⟨z6, s2⟩]; rfl
    · rw [if_neg z6, if_neg (fun e => z6 e.1)]; rfl
  · simp only [c6, if_false, false_and, show ¬ (0 : Int32) = -1 by decide, show ¬ (0 : Int32) = 1 by decide]
    by_cases z6 : C k 6 = 0
    · by_cases s2 : sideN (C k) p = 2
      · rw [if_pos z6, if_pos s2, if_neg (fun e => e.2 s2)]; rfl
      · rw [if_pos z6, if_neg s2, if_pos ⟨z6, s2⟩]; rfl
    · rw [if_neg z6, if_neg (fun e => z6 e.1)]; rfl
