/-! values of fields as texts -/
theorem l_shrk {n k : Nat} (h : n < 2 ^ 62) (hk : k < 32) : lN n >>> ((nI k).toInt64 &&& 63) = lN (n / 2 ^ k) := by
  apply Int64.toBitVec_inj.mp
  have e : (((nI k).toInt64 &&& 63).toBitVec.smod 64).toNat = k := by
    have : ∀ k, k < 32 → (((nI k).toInt64 &&& 63).toBitVec.smod 64).toNat = k := by decide +kernel
    exact this k hk
  show (BitVec.ofNat 64 n).sshiftRight' (((nI k).toInt64 &&& 63).toBitVec.smod 64) = BitVec.ofNat 64 (n / 2 ^ k)
  have q : n / 2 ^ k ≤ n := Nat.div_le_self _ _
  rw [BitVec.sshiftRight', e, BitVec.sshiftRight_eq_of_msb_false]
  · apply BitVec.eq_of_toNat_eq
    rw [BitVec.toNat_ushiftRight, BitVec.toNat_ofNat, BitVec.toNat_ofNat, Nat.shiftRight_eq_div_pow, Nat.mod_eq_of_lt (by omega), Nat.mod_eq_of_lt (by omega)]
  · rw [BitVec.msb_eq_decide, decide_eq_false]
    rw [BitVec.toNat_ofNat, Nat.mod_eq_of_lt (by omega)]
    omega
theorem l_and255 {n : Nat} (h : n < 2 ^ 62) : lN n &&& 255 = lN (n % 256) := by
  apply Int64.toBitVec_inj.mp
  apply BitVec.eq_of_toNat_eq
  have e1 : (lN n &&& 255).toBitVec = BitVec.ofNat 64 n &&& BitVec.ofNat 64 255 := rfl
  have e2 : (lN (n % 256)).toBitVec = BitVec.ofNat 64 (n % 256) := rfl
  rw [e1, e2, BitVec.toNat_and, BitVec.toNat_ofNat, BitVec.toNat_ofNat, BitVec.toNat_ofNat, Nat.mod_eq_of_lt (by omega : n < 2 ^ 64), Nat.mod_eq_of_lt (by omega : 255 < 2 ^ 64), Nat.mod_eq_of_lt (by omega : n % 256 < 2 ^ 64)]
  exact Nat.and_two_pow_sub_one_eq_mod n 8
theorem dg_nil {n u : Nat} (h : n < u) (h1 : u ≠ 1) : dg n u = [] := by unfold dg; rw [if_neg (fun e => e.elim (by omega) h1)]
theorem digs_3 {n : Nat} (h : n < 1000) : (digs n).length ≤ 3 := by
  have := dg_len n 100
  have := dg_len n 10
  have := dg_len n 1
  unfold digs
  rw [dg_nil (u := 10000) (by omega) (by omega), dg_nil (u := 1000) (by omega) (by omega)]
  simp only [List.length_append, List.length_nil]
  omega
theorem digs_1 {n : Nat} (h : n < 10) : (digs n).length ≤ 1 := by
  have := dg_len n 1
  unfold digs
  rw [dg_nil (u := 10000) (by omega) (by omega), dg_nil (u := 1000) (by omega) (by omega), dg_nil (u := 100) (by omega) (by omega), dg_nil (u := 10) (by omega) (by omega)]
  simp only [List.length_append, List.length_nil]
  omega
def va (v k : Nat) : List Nat := digs (v / 2 ^ k % 256)
def vl (f v : Nat) : List Nat := if f = 2 ∨ f = 3 then va v 24 ++ ([46] ++ (va v 16 ++ ([46] ++ (va v 8 ++ ([46] ++ (va v 0 ++ [])))))) else digs v
theorem va_len (v k : Nat) : (va v k).length ≤ 3 := digs_3 (by have := Nat.mod_lt (v / 2 ^ k) (show 256 > 0 by decide); omega)
def vmx (f : Nat) : Nat := [1, 3, 15, 15, 5, 5].getD f 0
theorem vl_len {f v : Nat} (hf : f < 6) (hv : v ≤ tp f) : (vl f v).length ≤ vmx f := by
  have a1 := va_len v 24
  have a2 := va_len v 16
  have a3 := va_len v 8
  have a4 := va_len v 0
  have d5 := digs_len v
  unfold vl
  have : f = 0 ∨ f = 1 ∨ f = 2 ∨ f = 3 ∨ f = 4 ∨ f = 5 := by omega
  rcases this with rfl | rfl | rfl | rfl | rfl | rfl
  · rw [if_neg (by decide)]; exact digs_1 (by have : v ≤ 3 := hv; omega)
  · rw [if_neg (by decide)]; exact digs_3 (by have : v ≤ 255 := hv; omega)
  · rw [if_pos (by decide)]; simp only [List.length_append, List.length_singleton, List.length_nil]; show _ ≤ 15; omega
  · rw [if_pos (by decide)]; simp only [List.length_append, List.length_singleton, List.length_nil]; show _ ≤ 15; omega
  · rw [if_neg (by decide)]; exact d5
  · rw [if_neg (by decide)]; exact d5
section VAL
variable {S : gk_S} {F : Nat} {g : Nat → Int32} {l : List Nat}
theorem m255 (v k : Nat) : v / 2 ^ k % 256 < 256 := Nat.mod_lt _ (by decide)
theorem w_v21 (h : Sh S) (hF : 16400 ≤ F) {v k : Nat} (hv : v < 2 ^ 62) (hk : k < 32) (fu : Nat) (hl : l.length + 6 ≤ 3000) : f_X1_putValue_21 F (fu + 1) (lN v) 3 (nI k) (CW S g l) = f_X1_putValue_21 F fu (lN v) 3 (nI k + (-8)) (CW S g (l ++ (va v k ++ if k = 0 then [] else [46]))) := by
  have q : v / 2 ^ k ≤ v := Nat.div_le_self _ _
  have m := m255 v k
  have vl := va_len v k
  have z0 : nI k ≤ 0 ↔ k ≤ 0 := nI_leI (b := 0) (by omega) (by omega)
  rw [f_X1_putValue_21, if_neg (nI_pos (by omega)), qv_eq, l_shrk hv hk, l_and255 (by omega), lN_i, z_i3 (Sh_CW h _ _), qk_true, w_num h hF (by omega) (by omega), qc_some']
  by_cases c : k = 0
  · rw [if_pos (z0.mpr (by omega)), if_pos c, List.append_nil]
    rfl
  · rw [if_neg (fun e => c (by have := z0.mp e; omega)), if_neg c, z_i3 (Sh_CW h _ _), qk_true, w_add h (by rw [List.length_append]; unfold va at vl; omega), qc_some', List.append_assoc]
    rfl
theorem w_value (h : Sh S) (hF : 16400 ≤ F) {f v : Nat} (hf : f < 6) (hv : v ≤ tp f) (hl : l.length + 24 ≤ 3000) : f_X1_putValue F (CW S g l) (lN v) (nI f) 3 = some ((), CW S g (l ++ vl f v)) := by
  have t := tp_lt f
  have z2 : nI f = 2 ↔ f = 2 := nI_eq (b := 2) (by omega) (by omega)
  have z3 : nI f = 3 ↔ f = 3 := nI_eq (b := 3) (by omega) (by omega)
  obtain ⟨fu, e⟩ : ∃ fu, F = fu + 1 + 1 + 1 + 1 + 1 := ⟨F - 5, by omega⟩
  have a1 := va_len v 24
  have a2 := va_len v 16
  have a3 := va_len v 8
  have k : f_X1_putValue_21 F (fu + 1 + 1 + 1 + 1 + 1) (lN v) 3 (nI 24) (CW S g l) = some ((), CW S g (l ++ (va v 24 ++ ([46] ++ (va v 16 ++ ([46] ++ (va v 8 ++ ([46] ++ (va v 0 ++ [])))))))))  := by
    rw [w_v21 h hF (by omega) (by omega) _ (by omega), show nI 24 + (-8) = nI 16 from by decide, w_v21 h hF (by omega) (by omega) _ (by simp only [List.length_append, if_neg (show ¬ 24 = 0 by decide), List.length_singleton]; omega), show nI 16 + (-8) = nI 8 from by decide, w_v21 h hF (by omega) (by omega) _ (by simp only [List.length_append, if_neg (show ¬ 24 = 0 by decide), if_neg (show ¬ 16 = 0 by decide), List.length_singleton]; omega), show nI 8 + (-8) = nI 0 from by decide, w_v21 h hF (by omega) (by omega) _ (by simp only [List.length_append, if_neg (show ¬ 24 = 0 by decide), if_neg (show ¬ 16 = 0 by decide), if_neg (show ¬ 8 = 0 by decide), List.length_singleton]; omega), f_X1_putValue_21, if_pos (by decide)]
    simp only [if_neg (show ¬ 24 = 0 by decide), if_neg (show ¬ 16 = 0 by decide), if_neg (show ¬ 8 = 0 by decide), if_true, List.append_assoc]
  rw [← e] at k
  unfold f_X1_putValue vl
  by_cases c2 : f = 2
  · rw [if_pos (z2.mpr c2), if_pos (Or.inl c2)]; exact k
  rw [if_neg (fun e => c2 (z2.mp e))]
  by_cases c3 : f = 3
  · rw [if_pos (z3.mpr c3), if_pos (Or.inr c3)]; exact k
  have v5 : v < 100000 := by
    have : f = 0 ∨ f = 1 ∨ f = 4 ∨ f = 5 := by omega
    rcases this with rfl | rfl | rfl | rfl
    · have : v ≤ 3 := hv; omega
    · have : v ≤ 255 := hv; omega
    · have : v ≤ 65535 := hv; omega
    · have : v ≤ 65535 := hv; omega
  rw [if_neg (fun e => c3 (z3.mp e)), if_neg (fun e => e.elim c2 c3), z_i3 (Sh_CW h _ _), qk_true, lN_i, w_num h hF v5 (by omega), qc_some']
theorem v_v20 (h : Sh S) (hF : 16400 ≤ F) {v k : Nat} (hv : v < 2 ^ 62) (hk : k < 32) (fu : Nat) (hl : l.length + 6 ≤ 3000) : f_X12_putValue_20 F (fu + 1) 352 (lN v) (nI k) (MW S g l) = f_X12_putValue_20 F fu 352 (lN v) (nI k + (-8)) (MW S g (l ++ (va v k ++ if k = 0 then [] else [46]))) := by
  have q : v / 2 ^ k ≤ v := Nat.div_le_self _ _
  have m := m255 v k
  have vl := va_len v k
  have z0 : nI k ≤ 0 ↔ k ≤ 0 := nI_leI (b := 0) (by omega) (by omega)
  rw [f_X12_putValue_20, if_neg (nI_pos (by omega)), z_i352 (Sh_MW h _ _), qk_true, l_shrk hv hk, l_and255 (by omega), v_num h hF (by omega) (by omega), qc_some']
  by_cases c : k = 0
  · rw [if_pos (z0.mpr (by omega)), if_pos c, List.append_nil]
    rfl
  · rw [if_neg (fun e => c (by have := z0.mp e; omega)), if_neg c, z_i352 (Sh_MW h _ _), qk_true, v_put h (by rw [List.length_append]; unfold va at vl; omega), qc_some', List.append_assoc]
    rfl
theorem v_value (h : Sh S) (hF : 16400 ≤ F) {f v : Nat} (hf : f < 6) (hv : v ≤ tp f) (hl : l.length + 24 ≤ 3000) : f_X12_putValue F (MW S g l) 352 (nI f) (lN v) = some ((), MW S g (l ++ vl f v)) := by
  have t := tp_lt f
  have z2 : nI f = 2 ↔ f = 2 := nI_eq (b := 2) (by omega) (by omega)
  have z3 : nI f = 3 ↔ f = 3 := nI_eq (b := 3) (by omega) (by omega)
  obtain ⟨fu, e⟩ : ∃ fu, F = fu + 1 + 1 + 1 + 1 + 1 := ⟨F - 5, by omega⟩
  have a1 := va_len v 24
  have a2 := va_len v 16
  have a3 := va_len v 8
  have k : f_X12_putValue_20 F (fu + 1 + 1 + 1 + 1 + 1) 352 (lN v) (nI 24) (MW S g l) = some ((), MW S g (l ++ (va v 24 ++ ([46] ++ (va v 16 ++ ([46] ++ (va v 8 ++ ([46] ++ (va v 0 ++ [])))))))))  := by
    rw [v_v20 h hF (by omega) (by omega) _ (by omega), show nI 24 + (-8) = nI 16 from by decide, v_v20 h hF (by omega) (by omega) _ (by simp only [List.length_append, if_neg (show ¬ 24 = 0 by decide), List.length_singleton]; omega), show nI 16 + (-8) = nI 8 from by decide, v_v20 h hF (by omega) (by omega) _ (by simp only [List.length_append, if_neg (show ¬ 24 = 0 by decide), if_neg (show ¬ 16 = 0 by decide), List.length_singleton]; omega), show nI 8 + (-8) = nI 0 from by decide, v_v20 h hF (by omega) (by omega) _ (by simp only [List.length_append, if_neg (show ¬ 24 = 0 by decide), if_neg (show ¬ 16 = 0 by decide), if_neg (show ¬ 8 = 0 by decide), List.length_singleton]; omega), f_X12_putValue_20, if_pos (by decide)]
    simp only [if_neg (show ¬ 24 = 0 by decide), if_neg (show ¬ 16 = 0 by decide), if_neg (show ¬ 8 = 0 by decide), if_true, List.append_assoc]
  rw [← e] at k
  unfold f_X12_putValue vl
  by_cases c2 : f = 2
  · rw [if_pos (z2.mpr c2), if_pos (Or.inl c2)]; exact k
  rw [if_neg (fun e => c2 (z2.mp e))]
  by_cases c3 : f = 3
  · rw [if_pos (z3.mpr c3), if_pos (Or.inr c3)]; exact k
  have v5 : v < 100000 := by
    have : f = 0 ∨ f = 1 ∨ f = 4 ∨ f = 5 := by omega
    rcases this with rfl | rfl | rfl | rfl
    · have : v ≤ 3 := hv; omega
    · have : v ≤ 255 := hv; omega
    · have : v ≤ 65535 := hv; omega
    · have : v ≤ 65535 := hv; omega
  rw [if_neg (fun e => c3 (z3.mp e)), if_neg (fun e => e.elim c2 c3), z_i352 (Sh_MW h _ _), qk_true, v_num h hF v5 (by omega), qc_some']
end VAL
