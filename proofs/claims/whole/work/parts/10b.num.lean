/-! numbers as texts -/
def dg (n u : Nat) : List Nat := if u ≤ n ∨ u = 1 then [48 + n / u % 10] else []
def digs (n : Nat) : List Nat := dg n 10000 ++ (dg n 1000 ++ (dg n 100 ++ (dg n 10 ++ dg n 1)))
theorem dg_len (n u : Nat) : (dg n u).length ≤ 1 := by unfold dg; split <;> simp
theorem digs_len (n : Nat) : (digs n).length ≤ 5 := by
  have := dg_len n 10000
  have := dg_len n 1000
  have := dg_len n 100
  have := dg_len n 10
  have := dg_len n 1
  unfold digs
  simp only [List.length_append]
  omega
section NUM
variable {S : gk_S} {F : Nat} {g : Nat → Int32} {l : List Nat}
theorem w_num4 (h : Sh S) {n u : Nat} (hn : n < 100000) (hu : 1 ≤ u) (hu2 : u ≤ 10000) (fu : Nat) (hl : l.length < 3000) : f_X2_addNumber_4 F (fu + 1) 3 (nI n) (nI u) (CW S g l) = f_X2_addNumber_4 F fu 3 (nI n) (nI (u / 10)) (CW S g (l ++ dg n u)) := by
  have ed : nI u / 10 = nI (u / 10) := pk_div (d := 10) (by omega) (by omega) (by omega)
  have en : nI n / nI u = nI (n / u) := pk_div (by omega) (by omega) (by omega)
  have q1 : n / u < 100000 := Nat.lt_of_le_of_lt (Nat.div_le_self n u) hn
  have er : nI (n / u) - nI (n / u) / 10 * 10 = nI (n / u % 10) := pk_rem (d := 10) (by omega) (by omega) (by omega)
  have e48 : (48 : Int32) + nI (n / u % 10) = nI (48 + n / u % 10) := nI_add 48 _
  have m10 : n / u % 10 < 10 := Nat.mod_lt _ (by omega)
  have un48 : un (nI (48 + n / u % 10)) % 256 = 48 + n / u % 10 := by rw [un_nI (by omega)]; omega
  have s19 : f_X2_addNumber_19 F (f_X2_addNumber_4 F fu) 3 (nI n) (nI u) (CW S g l) = f_X2_addNumber_4 F fu 3 (nI n) (nI (u / 10)) (CW S g (l ++ [48 + n / u % 10])) := by
    unfold f_X2_addNumber_19
    rw [nzI_of (nI_ne0 (by omega) (by omega)), qk_true, z_i3 (Sh_CW h _ _), qk_true, en, er, e48, w_add h hl, qc_some', un48, ed]
  rw [f_X2_addNumber_4, if_neg (show ¬ nI u < 1 from nI_nlt (b := 1) hu (by omega))]
  unfold dg
  by_cases c : u ≤ n
  · rw [if_pos (nI_le c (by omega)), s19, if_pos (Or.inl c)]
  · rw [if_neg (nI_ge (by omega) (by omega))]
    by_cases c1 : u = 1
    · rw [if_pos (show nI u = 1 by rw [c1]; rfl), s19, if_pos (Or.inr c1)]
    · rw [if_neg (show ¬ nI u = 1 from fun e => c1 ((nI_eq (b := 1) (by omega) (by omega)).mp e)), if_neg (fun e => e.elim c c1), List.append_nil, ed]
theorem w_num (h : Sh S) (hF : 16400 ≤ F) {n : Nat} (hn : n < 100000) (hl : l.length + 5 ≤ 3000) : f_X2_addNumber F (CW S g l) 3 (nI n) = some ((), CW S g (l ++ digs n)) := by
  obtain ⟨fu, e⟩ : ∃ fu, F = fu + 1 + 1 + 1 + 1 + 1 + 1 := ⟨F - 6, by omega⟩
  have d1 := dg_len n 10000
  have d2 := dg_len n 1000
  have d3 := dg_len n 100
  have d4 := dg_len n 10
  have k : f_X2_addNumber_4 F (fu + 1 + 1 + 1 + 1 + 1 + 1) 3 (nI n) (nI 10000) (CW S g l) = some ((), CW S g (l ++ digs n)) := by
    rw [w_num4 h hn (u := 10000) (by omega) (by omega) _ (by omega), show 10000 / 10 = 1000 from rfl, w_num4 h hn (u := 1000) (by omega) (by omega) _ (by rw [List.length_append]; omega), show 1000 / 10 = 100 from rfl, w_num4 h hn (u := 100) (by omega) (by omega) _ (by simp only [List.length_append]; omega), show 100 / 10 = 10 from rfl, w_num4 h hn (u := 10) (by omega) (by omega) _ (by simp only [List.length_append]; omega), show 10 / 10 = 1 from rfl, w_num4 h hn (u := 1) (by omega) (by omega) _ (by simp only [List.length_append]; omega), f_X2_addNumber_4, if_pos (by decide)]
    unfold digs
    simp only [List.append_assoc]
  rw [← e] at k
  exact k
theorem l_div {a b : Nat} (ha : a < 2 ^ 62) (hb : b < 2 ^ 62) (h0 : 0 < b) : lN a / lN b = lN (a / b) := by
  apply Int64.toInt_inj.mp
  have q : a / b ≤ a := Nat.div_le_self a b
  rw [Int64.toInt_div, l_toInt (by omega), l_toInt (by omega), l_toInt (by omega)]
  have e : (a : Int).tdiv (b : Int) = ((a / b : Nat) : Int) := rfl
  rw [e]
  have hq : a / b < 2 ^ 62 := by omega
  generalize a / b = k at hq
  clear e q
  exact Int.bmod_eq_of_le (by omega) (by omega)
theorem v_21 (h : Sh S) {n t : Nat} (hn : n < 100000) (ht : 1 ≤ t) (ht2 : t ≤ 10000) (fu : Nat) (hl : l.length < 3000) : f_X12_putNumber_21 F (fu + 1) 352 (lN n) (lN t) (MW S g l) = f_X12_putNumber_21 F fu 352 (lN n) (lN (t / 10)) (MW S g (l ++ [48 + n / t % 10])) := by
  have q1 : n / t < 100000 := Nat.lt_of_le_of_lt (Nat.div_le_self n t) hn
  have m10 : n / t % 10 < 10 := Nat.mod_lt _ (by omega)
  have en : lN n / lN t = lN (n / t) := l_div (by omega) (by omega) (by omega)
  have e10 : lN (n / t) / 10 = lN (n / t / 10) := l_div (b := 10) (by omega) (by omega) (by omega)
  have et : lN t / 10 = lN (t / 10) := l_div (b := 10) (by omega) (by omega) (by omega)
  have er : lN (n / t) - lN (n / t / 10) * 10 = lN (n / t % 10) := by
    rw [show (10 : Int64) = lN 10 from rfl, lN_mul, lN_sub (by omega)]
    congr 1
    omega
  have e48 : (48 : Int64) + lN (n / t % 10) = lN (48 + n / t % 10) := lN_add 48 _
  have un48 : un (nI (48 + n / t % 10)) % 256 = 48 + n / t % 10 := by rw [un_nI (by omega)]; omega
  rw [f_X12_putNumber_21, if_neg (show ¬ lN t ≤ 0 from fun e => by have := (l_le (b := 0) (by omega) (by omega)).mp e; omega), nzJ_of (fun e => by have := (l_eq (b := 0) (by omega) (by omega)).mp e; omega), qk_true, z_i352 (Sh_MW h _ _), qk_true, en, e10, er, e48, lN_i, v_put h hl, qc_some', un48, et]
theorem v_2 {n t : Nat} (hn : n < 100000) (ht : 1 ≤ t) (ht2 : t ≤ 10000) (fu : Nat) : f_X12_putNumber_2 F (fu + 1) 352 (lN n) (lN t) (MW S g l) = if n / t ≤ 9 then f_X12_putNumber_21 F F 352 (lN n) (lN t) (MW S g l) else f_X12_putNumber_2 F fu 352 (lN n) (lN (10 * t)) (MW S g l) := by
  have q1 : n / t < 100000 := Nat.lt_of_le_of_lt (Nat.div_le_self n t) hn
  have en : lN n / lN t = lN (n / t) := l_div (by omega) (by omega) (by omega)
  have z9 : lN (n / t) ≤ 9 ↔ n / t ≤ 9 := l_le (b := 9) (by omega) (by omega)
  rw [f_X12_putNumber_2, nzJ_of (fun e => by have := (l_eq (b := 0) (by omega) (by omega)).mp e; omega), qk_true, en]
  by_cases c : n / t ≤ 9
  · rw [if_pos (z9.mpr c), if_pos c]
  · rw [if_neg (fun e => c (z9.mp e)), if_neg c, show (10 : Int64) * lN t = lN (10 * t) from lN_mul 10 t]
theorem v_num (h : Sh S) (hF : 16400 ≤ F) {n : Nat} (hn : n < 100000) (hl : l.length + 5 ≤ 3000) : f_X12_putNumber F (MW S g l) 352 (lN n) = some ((), MW S g (l ++ digs n)) := by
  obtain ⟨fu, e⟩ : ∃ fu, F = fu + 1 + 1 + 1 + 1 + 1 + 1 := ⟨F - 6, by omega⟩
  have ends : ∀ fu (l : List Nat), f_X12_putNumber_21 F (fu + 1) 352 (lN n) (lN (1 / 10)) (MW S g l) = some ((), MW S g l) := by
    intro fu l
    rw [f_X12_putNumber_21, if_pos (by decide)]
  have p0 : ∀ (l : List Nat) fu, l.length < 3000 → f_X12_putNumber_21 F (fu + 1 + 1) 352 (lN n) (lN 1) (MW S g l) = some ((), MW S g (l ++ [48 + n / 1 % 10])) := by
    intro l fu hl
    rw [v_21 h hn (by omega) (by omega) _ hl, ends]
  have p1 : ∀ (l : List Nat) fu, l.length + 1 < 3000 → f_X12_putNumber_21 F (fu + 1 + 1 + 1) 352 (lN n) (lN 10) (MW S g l) = some ((), MW S g (l ++ [48 + n / 10 % 10, 48 + n / 1 % 10])) := by
    intro l fu hl
    rw [v_21 h hn (by omega) (by omega) _ (by omega), show 10 / 10 = 1 from rfl, p0 _ _ (by rw [List.length_append, List.length_singleton]; omega), List.append_assoc]
    rfl
  have p2 : ∀ (l : List Nat) fu, l.length + 2 < 3000 → f_X12_putNumber_21 F (fu + 1 + 1 + 1 + 1) 352 (lN n) (lN 100) (MW S g l) = some ((), MW S g (l ++ [48 + n / 100 % 10, 48 + n / 10 % 10, 48 + n / 1 % 10])) := by
    intro l fu hl
    rw [v_21 h hn (by omega) (by omega) _ (by omega), show 100 / 10 = 10 from rfl, p1 _ _ (by rw [List.length_append, List.length_singleton]; omega), List.append_assoc]
    rfl
  have p3 : ∀ (l : List Nat) fu, l.length + 3 < 3000 → f_X12_putNumber_21 F (fu + 1 + 1 + 1 + 1 + 1) 352 (lN n) (lN 1000) (MW S g l) = some ((), MW S g (l ++ [48 + n / 1000 % 10, 48 + n / 100 % 10, 48 + n / 10 % 10, 48 + n / 1 % 10])) := by
    intro l fu hl
    rw [v_21 h hn (by omega) (by omega) _ (by omega), show 1000 / 10 = 100 from rfl, p2 _ _ (by rw [List.length_append, List.length_singleton]; omega), List.append_assoc]
    rfl
  have p4 : ∀ (l : List Nat) fu, l.length + 4 < 3000 → f_X12_putNumber_21 F (fu + 1 + 1 + 1 + 1 + 1 + 1) 352 (lN n) (lN 10000) (MW S g l) = some ((), MW S g (l ++ [48 + n / 10000 % 10, 48 + n / 1000 % 10, 48 + n / 100 % 10, 48 + n / 10 % 10, 48 + n / 1 % 10])) := by
    intro l fu hl
    rw [v_21 h hn (by omega) (by omega) _ (by omega), show 10000 / 10 = 1000 from rfl, p3 _ _ (by rw [List.length_append, List.length_singleton]; omega), List.append_assoc]
    rfl
  have dy : ∀ u, u ≤ n ∨ u = 1 → dg n u = [48 + n / u % 10] := fun u hu => by unfold dg; rw [if_pos hu]
  have dn : ∀ u, n < u → u ≠ 1 → dg n u = [] := fun u hu h1 => by unfold dg; rw [if_neg (fun e => e.elim (by omega) h1)]
  have key : f_X12_putNumber_2 F (fu + 1 + 1 + 1 + 1 + 1 + 1) 352 (lN n) (lN 1) (MW S g l) = some ((), MW S g (l ++ digs n)) := by
    unfold digs
    rw [v_2 hn (by omega) (by omega)]
    by_cases c0 : n < 10
    · rw [if_pos (by omega), dn 10000 (by omega) (by omega), dn 1000 (by omega) (by omega), dn 100 (by omega) (by omega), dn 10 (by omega) (by omega), dy 1 (Or.inr rfl)]
      have k := p0 l (fu + 1 + 1 + 1 + 1) (by omega)
      rw [← e] at k
      exact k
    rw [if_neg (by omega), v_2 hn (by omega) (by omega)]
    by_cases c1 : n < 100
    · rw [if_pos (by omega), dn 10000 (by omega) (by omega), dn 1000 (by omega) (by omega), dn 100 (by omega) (by omega), dy 10 (Or.inl (by omega)), dy 1 (Or.inr rfl)]
      have k := p1 l (fu + 1 + 1 + 1) (by omega)
      rw [← e] at k
      exact k
    rw [if_neg (by omega), v_2 hn (by omega) (by omega)]
    by_cases c2 : n < 1000
    · rw [if_pos (by omega), dn 10000 (by omega) (by omega), dn 1000 (by omega) (by omega), dy 100 (Or.inl (by omega)), dy 10 (Or.inl (by omega)), dy 1 (Or.inr rfl)]
      have k := p2 l (fu + 1 + 1) (by omega)
      rw [← e] at k
      exact k
    rw [if_neg (by omega), v_2 hn (by omega) (by omega)]
    by_cases c3 : n < 10000
    · rw [if_pos (by omega), dn 10000 (by omega) (by omega), dy 1000 (Or.inl (by omega)), dy 100 (Or.inl (by omega)), dy 10 (Or.inl (by omega)), dy 1 (Or.inr rfl)]
      have k := p3 l (fu + 1) (by omega)
      rw [← e] at k
      exact k
    rw [if_neg (by omega), v_2 hn (by omega) (by omega), if_pos (by omega), dy 10000 (Or.inl (by omega)), dy 1000 (Or.inl (by omega)), dy 100 (Or.inl (by omega)), dy 10 (Or.inl (by omega)), dy 1 (Or.inr rfl)]
    have k := p4 l fu (by omega)
    rw [← e] at k
    exact k
  rw [← e] at key
  exact key
end NUM
