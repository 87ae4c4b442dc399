section PACK4
variable {S : gk_S} {F : Nat} {g : Nat → Int32} {l : List Nat}
/-- the model's last packet -/
def LM (S : gk_S) (p : Nat → Nat) : Prop := WP p ∧ ∀ f, f < 7 → xI S 370 f = nI (p f)
theorem lm_rd {p : Nat → Nat} (lm : LM S p) {f : Nat} (hf : f < 7) : aI (MW S g l) 370 (nI f) = nI (p f) := by
  have : aI (MW S g l) 370 (nI f) = xI S 370 f := by
    unfold aI
    rw [nI_clamp (by omega)]
    rfl
  rw [this, lm.2 f hf]
theorem un_s16 (x : Int32) : un (x >>> ((16 : Int32) &&& 31)) / 256 % 256 = un x / 16777216 % 256 ∧ un (x >>> ((16 : Int32) &&& 31)) % 256 = un x / 65536 % 256 := by
  refine ⟨?_, un_sshr x (k := 16) (by omega)⟩
  apply Nat.eq_of_testBit_eq
  intro i
  rw [show (256 : Nat) = 2 ^ 8 from rfl, show (16777216 : Nat) = 2 ^ 24 from rfl, Nat.testBit_mod_two_pow, Nat.testBit_mod_two_pow]
  by_cases q : i < 8
  · have := ss_ x (k := 16) (i := 8 + i) (by omega) (by omega)
    rw [decide_eq_true q, Bool.true_and, Bool.true_and, Nat.testBit_div_two_pow, Nat.testBit_div_two_pow, un_bit, un_bit, Nat.add_comm i 8, Nat.add_comm i 24]
    exact this.trans (by rw [← Nat.add_assoc])
  · rw [decide_eq_false q]; rfl
def HM (p : Nat → Nat) (rest : Nat) : List Nat := [69, 0] ++ b2 (20 + rest) ++ [0, 0, 0, 0] ++ [64, p 1] ++ [0, 0]
theorem v_110 (h : Sh S) (hF : 16400 ≤ F) {p : Nat → Nat} (lm : LM S p) (rest : Nat) (hl : l.length = 12) : f_X12_pack_110 F F 352 (nI (p 1)) (nI rest) 2 (MW S g l) = if p 1 = 6 ∨ p 1 = 17 then f_X12_pack_156 F 352 (nI (p 1)) (nI rest) (MW S g (l ++ b4 (p 2) ++ b4 (p 3))) else f_X12_pack_176 F 352 (nI (p 1)) (nI rest) (MW S g (l ++ b4 (p 2) ++ b4 (p 3))) := by
  have w := lm.1
  obtain ⟨w0, w1, w2, w3, w4, w5, w6⟩ := w
  obtain ⟨fu, e⟩ : ∃ fu, F = fu + 1 + 1 + 1 := ⟨F - 3, by omega⟩
  have step : ∀ fu k (l : List Nat), 2 ≤ k → k < 4 → l.length + 4 ≤ 100 → f_X12_pack_110 F (fu + 1) 352 (nI (p 1)) (nI rest) (nI k) (MW S g l) = f_X12_pack_110 F fu 352 (nI (p 1)) (nI rest) (nI (k + 1)) (MW S g (l ++ b4 (p k))) := by
    intro fu k l h2 h4 hl
    have pk : p k ≤ 4294967295 := by
      have : k = 2 ∨ k = 3 := by omega
      rcases this with rfl | rfl <;> assumption
    have u := un_s16 (nI (p k))
    rw [un_nI (by omega)] at u
    have Z := fun l => Sh_MW h g l
    rw [f_X12_pack_110, if_neg (show ¬ (4 : Int32) ≤ nI k from nI_ge (b := 4) h4 (by omega)), z_i352 (Z _), qk_true, z_p939_352 (Z _), qP_some', z_i370 (Z _), qk_true, z_l370 (Z _), inb_n (by omega) (by omega), qk_true, qv_eq, lm_rd lm (by omega), v_two h (by omega), qc_some', z_i352 (Z _), qk_true, z_p939_352 (Z _), qP_some', z_i370 (Z _), qk_true, z_l370 (Z _), inb_n (by omega) (by omega), qk_true, qv_eq, lm_rd lm (by omega), v_two h (by simp only [List.length, List.length_append]; omega), qc_some', nI_1, u.1, u.2, un_nI (by omega), List.append_assoc]
    rfl
  have e2 : f_X12_pack_110 F (fu + 1 + 1 + 1) 352 (nI (p 1)) (nI rest) (nI 2) (MW S g l) = if p 1 = 6 ∨ p 1 = 17 then f_X12_pack_156 F 352 (nI (p 1)) (nI rest) (MW S g (l ++ b4 (p 2) ++ b4 (p 3))) else f_X12_pack_176 F 352 (nI (p 1)) (nI rest) (MW S g (l ++ b4 (p 2) ++ b4 (p 3))) := by
    have z6 : nI (p 1) = 6 ↔ p 1 = 6 := nI_eq (b := 6) (by omega) (by omega)
    have z17 : nI (p 1) = 17 ↔ p 1 = 17 := nI_eq (b := 17) (by omega) (by omega)
    rw [step _ 2 l (by omega) (by omega) (by omega), step _ 3 _ (by omega) (by omega) (by simp only [List.length, List.length_append, b4]; omega), f_X12_pack_110, if_pos (show (4 : Int32) ≤ nI (3 + 1) by decide)]
    by_cases c6 : p 1 = 6
    · rw [if_pos (z6.mpr c6), if_pos (Or.inl c6)]
    rw [if_neg (fun e => c6 (z6.mp e))]
    by_cases c17 : p 1 = 17
    · rw [if_pos (z17.mpr c17), if_pos (Or.inr c17)]
    · rw [if_neg (fun e => c17 (z17.mp e)), if_neg (show ¬ (p 1 = 6 ∨ p 1 = 17) by omega)]
  rw [← e] at e2
  exact e2
theorem v_62 (h : Sh S) {p : Nat → Nat} (lm : LM S p) {rest : Nat} (hr : rest ≤ 20) : f_X12_pack_62 F 352 (nI (p 1)) (nI rest) (MW S g []) = f_X12_pack_110 F F 352 (nI (p 1)) (nI rest) 2 (MW S g (HM p rest)) := by
  have w := lm.1
  obtain ⟨w0, w1, w2, w3, w4, w5, w6⟩ := w
  have Z := fun l => z_i352 (Sh_MW h g l)
  have a1 : (20 : Int32) + nI rest = nI (20 + rest) := nI_add 20 rest
  have u69 : un 69 % 256 = 69 := by decide
  have u64 : un 64 % 256 = 64 := by decide
  have u0 : un 0 = 0 := by decide
  have u1 : un (nI (p 1)) % 256 = p 1 := by rw [un_nI (by omega)]; omega
  unfold f_X12_pack_62
  rw [Z, qk_true, v_put h (by simp), qc_some', Z, qk_true, v_put h (by simp only [List.length, List.length_append]; omega), qc_some', Z, qk_true, a1, v_two h (by simp only [List.length, List.length_append]; omega), qc_some', Z, qk_true, v_two h (by simp only [List.length, List.length_append]; omega), qc_some', Z, qk_true, v_two h (by simp only [List.length, List.length_append]; omega), qc_some', Z, qk_true, v_put h (by simp only [List.length, List.length_append]; omega), qc_some', Z, qk_true, v_put h (by simp only [List.length, List.length_append]; omega), qc_some', Z, qk_true, v_two h (by simp only [List.length, List.length_append]; omega), qc_some', u69, u64, u0, u1, un_nI (by omega)]
  rfl
end PACK4
