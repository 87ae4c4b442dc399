section PACK5
variable {S : gk_S} {F : Nat} {g : Nat → Int32} {l : List Nat}
theorem v_body (h : Sh S) (hF : 16400 ≤ F) {p : Nat → Nat} (lm : LM S p) (rest : Nat) (hl : l.length = 20) : (if p 1 = 6 ∨ p 1 = 17 then f_X12_pack_156 F 352 (nI (p 1)) (nI rest) (MW S g l) else f_X12_pack_176 F 352 (nI (p 1)) (nI rest) (MW S g l)) = f_X12_pack_319 F 352 (nI (p 1)) (nI rest) (MW S g (l ++ if p 1 = 6 ∨ p 1 = 17 ∨ p 1 = 1 then BL p else [])) := by
  have w := lm.1
  obtain ⟨w0, w1, w2, w3, w4, w5, w6⟩ := w
  have Z := fun l => Sh_MW h g l
  have z6 : nI (p 1) = 6 ↔ p 1 = 6 := nI_eq (b := 6) (by omega) (by omega)
  have z17 : nI (p 1) = 17 ↔ p 1 = 17 := nI_eq (b := 17) (by omega) (by omega)
  have z1 : nI (p 1) = 1 ↔ p 1 = 1 := nI_eq (b := 1) (by omega) (by omega)
  have a4 : ∀ l, aI (MW S g l) 370 4 = nI (p 4) := fun l => lm_rd (g := g) (l := l) lm (f := 4) (by omega)
  have a5 : ∀ l, aI (MW S g l) 370 5 = nI (p 5) := fun l => lm_rd (g := g) (l := l) lm (f := 5) (by omega)
  have a6 : ∀ l, aI (MW S g l) 370 6 = nI (p 6) := fun l => lm_rd (g := g) (l := l) lm (f := 6) (by omega)
  have u0 : un 0 = 0 := by decide
  have u8 : un 8 = 8 := by decide
  have u80 : un 80 % 256 = 80 := by decide
  have u6 : un (nI (p 6)) % 256 = p 6 := by rw [un_nI (by omega)]; omega
  have i4 : inb 4 7 = true := rfl
  have i5 : inb 5 7 = true := rfl
  have i6 : inb 6 7 = true := rfl
  have c252 : ∀ l, p 1 ≠ 1 → f_X12_pack_252 F 352 (nI (p 1)) (nI rest) (MW S g l) = f_X12_pack_319 F 352 (nI (p 1)) (nI rest) (MW S g l) := by
    intro l hn
    unfold f_X12_pack_252
    rw [if_neg (fun e => hn (z1.mp e))]
  have c156 : f_X12_pack_156 F 352 (nI (p 1)) (nI rest) (MW S g l) = f_X12_pack_176 F 352 (nI (p 1)) (nI rest) (MW S g (l ++ (b2 (p 4) ++ b2 (p 5)))) := by
    unfold f_X12_pack_156
    rw [z_i352 (Z _), qk_true, z_p939_352 (Z _), qP_some', z_i370 (Z _), qk_true, z_l370 (Z _), i4, qk_true, qv_eq, a4, v_two h (by omega), qc_some', z_i352 (Z _), qk_true, z_p939_352 (Z _), qP_some', z_i370 (Z _), qk_true, z_l370 (Z _), i5, qk_true, qv_eq, a5, v_two h (by simp only [List.length, List.length_append]; omega), qc_some', un_nI (by omega), un_nI (by omega), List.append_assoc]
    rfl
  by_cases c6 : p 1 = 6
  · rw [if_pos (Or.inl c6), c156, if_pos (Or.inl c6)]
    unfold f_X12_pack_176
    rw [if_neg (fun e => by have := z17.mp e; omega), if_pos (z6.mpr c6)]
    have p201 : ∀ fu k (l : List Nat), k < 4 → l.length + 2 ≤ 100 → f_X12_pack_201 F (fu + 1) 352 (nI (p 1)) (nI rest) (nI k) (MW S g l) = f_X12_pack_201 F fu 352 (nI (p 1)) (nI rest) (nI (k + 1)) (MW S g (l ++ [0, 0])) := by
      intro fu k l hk hl
      rw [f_X12_pack_201, if_neg (show ¬ (4 : Int32) ≤ nI k from nI_ge (b := 4) hk (by omega)), z_i352 (Z _), qk_true, v_two h (by omega), qc_some', nI_1, u0]
    have p236 : ∀ fu k (l : List Nat), k < 3 → l.length + 2 ≤ 100 → f_X12_pack_236 F (fu + 1) 352 (nI (p 1)) (nI rest) (nI k) (MW S g l) = f_X12_pack_236 F fu 352 (nI (p 1)) (nI rest) (nI (k + 1)) (MW S g (l ++ [0, 0])) := by
      intro fu k l hk hl
      rw [f_X12_pack_236, if_neg (show ¬ (3 : Int32) ≤ nI k from nI_ge (b := 3) hk (by omega)), z_i352 (Z _), qk_true, v_two h (by omega), qc_some', nI_1, u0]
    obtain ⟨fu, e⟩ : ∃ fu, F = fu + 1 + 1 + 1 + 1 + 1 := ⟨F - 5, by omega⟩
    have q236 : ∀ l : List Nat, l.length + 6 ≤ 100 → f_X12_pack_236 F F 352 (nI (p 1)) (nI rest) 0 (MW S g l) = f_X12_pack_319 F 352 (nI (p 1)) (nI rest) (MW S g (l ++ [0, 0, 0, 0, 0, 0])) := by
      intro l hl
      have k : f_X12_pack_236 F (fu + 1 + 1 + 1 + 1 + 1) 352 (nI (p 1)) (nI rest) (nI 0) (MW S g l) = f_X12_pack_319 F 352 (nI (p 1)) (nI rest) (MW S g (l ++ [0, 0, 0, 0, 0, 0])) := by
        rw [p236 _ 0 _ (by omega) (by omega), p236 _ 1 _ (by omega) (by simp only [List.length, List.length_append]; omega), p236 _ 2 _ (by omega) (by simp only [List.length, List.length_append]; omega), f_X12_pack_236, if_pos (show (3 : Int32) ≤ nI (2 + 1) by decide), c252 _ (by omega), List.append_assoc, List.append_assoc]
        rfl
      rw [← e] at k
      exact k
    have k : f_X12_pack_201 F (fu + 1 + 1 + 1 + 1 + 1) 352 (nI (p 1)) (nI rest) (nI 0) (MW S g (l ++ (b2 (p 4) ++ b2 (p 5)))) = f_X12_pack_319 F 352 (nI (p 1)) (nI rest) (MW S g (l ++ BL p)) := by
      rw [p201 _ 0 _ (by omega) (by simp only [List.length, List.length_append, b2]; omega), p201 _ 1 _ (by omega) (by simp only [List.length, List.length_append, b2]; omega), p201 _ 2 _ (by omega) (by simp only [List.length, List.length_append, b2]; omega), p201 _ 3 _ (by omega) (by simp only [List.length, List.length_append, b2]; omega), f_X12_pack_201, if_pos (show (4 : Int32) ≤ nI (3 + 1) by decide), z_i352 (Z _), qk_true, v_put h (by simp only [List.length, List.length_append, b2]; omega), qc_some', z_i352 (Z _), qk_true, z_p939_352 (Z _), qP_some', z_i370 (Z _), qk_true, z_l370 (Z _), i6, qk_true, qv_eq, a6, v_put h (by simp only [List.length, List.length_append, b2]; omega), qc_some', u80, u6, q236 _ (by simp only [List.length, List.length_append, b2]; omega)]
      unfold BL
      rw [if_pos c6]
      simp only [List.append_assoc]
      rfl
    rw [← e] at k
    exact k
  by_cases c17 : p 1 = 17
  · rw [if_pos (Or.inr c17), c156, if_pos (Or.inr (Or.inl c17))]
    unfold f_X12_pack_176
    rw [if_pos (z17.mpr c17), z_i352 (Z _), qk_true, v_two h (by simp only [List.length, List.length_append, b2]; omega), qc_some', z_i352 (Z _), qk_true, v_two h (by simp only [List.length, List.length_append, b2]; omega), qc_some', if_neg (fun e => c6 (z6.mp e)), c252 _ (by omega), u0, u8]
    unfold BL
    rw [if_neg c6, if_pos c17]
    simp only [List.append_assoc]
  rw [if_neg (show ¬ (p 1 = 6 ∨ p 1 = 17) by omega)]
  unfold f_X12_pack_176
  rw [if_neg (fun e => c17 (z17.mp e)), if_neg (fun e => c6 (z6.mp e))]
  by_cases c1 : p 1 = 1
  · have ed : nI (p 4) / 256 = nI (p 4 / 256) := pk_div (d := 256) (by omega) (by omega) (by omega)
    have y0 : nI (p 4 / 256) = 0 ↔ p 4 / 256 = 0 := nI_eq (b := 0) (by omega) (by omega)
    have y8 : nI (p 4 / 256) = 8 ↔ p 4 / 256 = 8 := nI_eq (b := 8) (by omega) (by omega)
    have p311 : ∀ (l : List Nat) (n : Nat), n < 65536 → l.length + 4 ≤ 100 → f_X12_pack_311 F 352 (nI (p 1)) (nI rest) (nI n) 352 (MW S g l) = f_X12_pack_319 F 352 (nI (p 1)) (nI rest) (MW S g (l ++ (b2 n ++ [0, 0]))) := by
      intro l n hn hl
      unfold f_X12_pack_311
      rw [z_i352 (Z _), qk_true, v_two h (by omega), qc_some', z_i352 (Z _), qk_true, v_two h (by simp only [List.length, List.length_append]; omega), qc_some', un_nI (by omega), u0, List.append_assoc]
      rfl
    rw [if_pos (Or.inr (Or.inr c1))]
    unfold f_X12_pack_252 BL ech
    rw [if_pos (z1.mpr c1), z_i352 (Z _), qk_true, z_p939_352 (Z _), qP_some', z_i370 (Z _), qk_true, z_l370 (Z _), i4, qk_true, qv_eq, a4, v_two h (by omega), qc_some', z_i352 (Z _), qk_true, v_two h (by simp only [List.length, List.length_append]; omega), qc_some', z_i352 (Z _), qk_true, z_p939_352 (Z _), qP_some', z_i370 (Z _), qk_true, z_l370 (Z _), i4, qk_true, qv_eq, a4, ed, u0, un_nI (by omega), if_neg c6, if_neg c17]
    by_cases e0 : p 4 / 256 = 0
    · rw [if_pos (y0.mpr e0), qP_some', z_i370 (Z _), qk_true, z_l370 (Z _), i5, qk_true, qv_eq, a5, p311 _ _ (by omega) (by simp only [List.length, List.length_append]; omega), decide_eq_true (Or.inl e0)]
      simp only [List.append_assoc]
      rfl
    rw [if_neg (fun e => e0 (y0.mp e)), qP_some', z_i370 (Z _), qk_true, z_l370 (Z _), i4, qk_true, qv_eq, a4, ed]
    by_cases e8 : p 4 / 256 = 8
    · rw [if_pos (y8.mpr e8), qP_some', z_i370 (Z _), qk_true, z_l370 (Z _), i5, qk_true, qv_eq, a5, p311 _ _ (by omega) (by simp only [List.length, List.length_append]; omega), decide_eq_true (Or.inr e8)]
      simp only [List.append_assoc]
      rfl
    · have := p311 (l ++ [p 4 / 256 % 256, p 4 % 256] ++ [0 / 256 % 256, 0 % 256]) 0 (by omega) (by simp only [List.length, List.length_append]; omega)
      rw [show nI 0 = 0 from rfl] at this
      rw [if_neg (fun e => e8 (y8.mp e)), this, decide_eq_false (by omega)]
      simp only [List.append_assoc]
      rfl
  · rw [if_neg (show ¬ (p 1 = 6 ∨ p 1 = 17 ∨ p 1 = 1) by omega), c252 _ c1, List.append_nil]
end PACK5
