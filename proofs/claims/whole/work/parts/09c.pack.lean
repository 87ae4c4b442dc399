section PACK2
variable {S : gk_S} {F : Nat} {g : Nat → Int32} {l : List Nat}
theorem rs_congr {g g' : Nat → Int32} {to : Nat} (h : ∀ i, i < to → bt g i = bt g' i) : ∀ d k, rs g to d k = rs g' to d k := by
  intro d
  induction d with
  | zero => intro k; rfl
  | succ d ih =>
    intro k
    unfold rs
    by_cases q : to ≤ k
    · rw [if_pos q, if_pos q]
    · rw [if_neg q, if_neg q, ih, h k (by omega)]
      by_cases q2 : k + 1 < to
      · rw [if_pos q2, if_pos q2, h _ q2]
      · rw [if_neg q2, if_neg q2]
theorem fd2_le {x : Nat} (h : x < 2 ^ 27) : fd (fd x) ≤ 65535 := by unfold fd; omega
theorem k_seedA {a m : Nat} {g : Nat → Int32} (h : CO S a g m) (hm : m ≤ 2100) (h20 : 20 ≤ m) {T : Nat} (hT : T ≤ m) : f_X10_seed F S a (nI T) = some (nI (sed g m T), S) := by
  have b9 := bt_lt g 9
  have a9 : f_X2_at F S a 9 = some (nI (bt g 9), S) := h.1 F 9 (by omega)
  have p12 : f_X2_pair F S a 12 = some (nI (wd g 12), S) := k_pair h (by omega : 12 + 1 < m)
  have p14 : f_X2_pair F S a 14 = some (nI (wd g 14), S) := k_pair h (by omega : 14 + 1 < m)
  have p16 : f_X2_pair F S a 16 = some (nI (wd g 16), S) := k_pair h (by omega : 16 + 1 < m)
  have p18 : f_X2_pair F S a 18 = some (nI (wd g 18), S) := k_pair h (by omega : 18 + 1 < m)
  have z6 : nI (bt g 9) = 6 ↔ bt g 9 = 6 := nI_eq (b := 6) (by omega) (by omega)
  have z17 : nI (bt g 9) = 17 ↔ bt g 9 = 17 := nI_eq (b := 17) (by omega) (by omega)
  have s21 : f_X10_seed_21 F a (nI T) (nI (bt g 9)) S = some (nI (wd g 12 + wd g 14 + wd g 16 + wd g 18 + bt g 9 + (m - T)), S) := by
    unfold f_X10_seed_21
    rw [h.2.2.1, qk_true, p12, qc_some', h.2.2.1, qk_true, p14, qc_some', h.2.2.1, qk_true, p16, qc_some', h.2.2.1, qk_true, p18, qc_some', h.2.2.1, qk_true, qv_eq, h.2.2.2.1, nI_add, nI_add, nI_add, nI_add, nI_add, pk_sub (by omega)]
    congr 3
    omega
  unfold f_X10_seed sed
  rw [h.2.2.1, qk_true, a9, qc_some']
  by_cases c6 : bt g 9 = 6
  · rw [if_pos (z6.mpr c6), s21, if_pos (Or.inl c6)]
  rw [if_neg (fun e => c6 (z6.mp e))]
  by_cases c17 : bt g 9 = 17
  · rw [if_pos (z17.mpr c17), s21, if_pos (Or.inr c17)]
  · rw [if_neg (fun e => c17 (z17.mp e)), if_neg (show ¬ (bt g 9 = 6 ∨ bt g 9 = 17) by omega)]; rfl
theorem HL_len (p : Nat → Nat) (r : Nat) : (HL p r).length = 20 := rfl
def rst (p : Nat → Nat) : Nat := if p 1 = 6 then 20 else if p 1 = 17 ∨ p 1 = 1 then 8 else 0
theorem BL_len (p : Nat → Nat) (h : p 1 = 6 ∨ p 1 = 17 ∨ p 1 = 1) : (BL p).length = rst p := by
  unfold BL rst
  by_cases c6 : p 1 = 6
  · rw [if_pos c6, if_pos c6]; rfl
  · rw [if_neg c6, if_neg c6, if_pos (show p 1 = 17 ∨ p 1 = 1 by omega)]
    by_cases c17 : p 1 = 17
    · rw [if_pos c17]; rfl
    · rw [if_neg c17]; rfl
theorem k_body (h : Sh S) {p : Nat → Nat} (pk : PK S 345 p) (hb : p 1 = 6 ∨ p 1 = 17 ∨ p 1 = 1) (hl : l.length + 20 ≤ 3000) : f_X10_putBody F (CW S g l) 345 (nI (p 1)) 3 = some ((), CW S g (l ++ BL p)) := by
  have Z := fun l => z_i3 (Sh_CW h g l)
  have P := fun l => PK_CW (g := g) (l := l) pk
  have w := pk.2.2.2.2.2.2
  obtain ⟨w0, w1, w2, w3, w4, w5, w6⟩ := w
  have i4 : inb 4 6 = true := rfl
  have i5 : inb 5 6 = true := rfl
  have e4 : ∀ l, aJ (CW S g l) (345 + 1) 4 = lN (p 4) := fun l => (P l).2.2.2.2.1 4 (by omega)
  have e5 : ∀ l, aJ (CW S g l) (345 + 1) 5 = lN (p 5) := fun l => (P l).2.2.2.2.1 5 (by omega)
  have z6 : nI (p 1) = 6 ↔ p 1 = 6 := nI_eq (b := 6) (by omega) (by omega)
  have z17 : nI (p 1) = 17 ↔ p 1 = 17 := nI_eq (b := 17) (by omega) (by omega)
  have u0 : un 0 = 0 := by decide
  have u8 : un 8 = 8 := by decide
  unfold f_X10_putBody BL
  rw [(P _).1, qk_true, (P _).2.1, qP_some', (P _).2.2.1, qk_true, (P _).2.2.2.1, i4, qk_true, qv_eq, e4, lN_i, qP_some', (P _).2.2.1, qk_true, (P _).2.2.2.1, i5, qk_true, qv_eq, e5, lN_i, Z, qk_true, w_pair h (by omega), qc_some', un_lit _ (by omega)]
  by_cases c6 : p 1 = 6
  · have a2 : (20480 : Int32) + nI (p 6) = nI (20480 + p 6) := nI_add 20480 (p 6)
    have q1 : (20480 + p 6) / 256 % 256 = 80 ∧ (20480 + p 6) % 256 = p 6 := by omega
    rw [if_pos (z6.mpr c6), if_pos c6, Z, qk_true, w_pair h (by simp only [List.length, List.length_append]; omega), qc_some', Z, qk_true, w_quad h (by simp only [List.length, List.length_append]; omega), qc_some', Z, qk_true, w_quad h (by simp only [List.length, List.length_append]; omega), qc_some', (P _).1, qk_true, qv_eq, (P _).2.2.2.2.2.1, Z, qk_true, a2, w_pair h (by simp only [List.length, List.length_append]; omega), qc_some', Z, qk_true, w_pair h (by simp only [List.length, List.length_append]; omega), qc_some', Z, qk_true, w_quad h (by simp only [List.length, List.length_append]; omega), qc_some', u0, un_lit _ (by omega), un_lit _ (by omega), q1.1, q1.2]
    simp only [List.append_assoc]
    rfl
  rw [if_neg (fun e => c6 (z6.mp e)), if_neg c6]
  by_cases c17 : p 1 = 17
  · rw [if_pos (z17.mpr c17), if_pos c17, Z, qk_true, w_pair h (by simp only [List.length, List.length_append]; omega), qc_some', Z, qk_true, w_pair h (by simp only [List.length, List.length_append]; omega), qc_some', Z, qk_true, w_pair h (by simp only [List.length, List.length_append]; omega), qc_some', u0, u8, un_lit _ (by omega)]
    simp only [List.append_assoc]
    rfl
  · rw [if_neg (fun e => c17 (z17.mp e)), if_neg c17, Z, qk_true, w_pair h (by simp only [List.length, List.length_append]; omega), qc_some', (P _).1, qk_true]
    have ic := fun l => k_icmp (F := F) (P l)
    have y0 : nI (p 4 / 256) = 0 ↔ p 4 / 256 = 0 := nI_eq (b := 0) (by omega) (by omega)
    have y8 : nI (p 4 / 256) = 8 ↔ p 4 / 256 = 8 := nI_eq (b := 8) (by omega) (by omega)
    have ec : ∀ l, f_X3_isEcho F (CW S g l) 345 = some (bI (ech p), CW S g l) := by
      intro l
      unfold f_X3_isEcho ech
      rw [(P l).1, qk_true, ic, qc_some']
      by_cases q0 : p 4 / 256 = 0
      · rw [if_pos (y0.mpr q0), decide_eq_true (Or.inl q0)]; rfl
      · rw [if_neg (fun e => q0 (y0.mp e)), (P l).1, qk_true, ic, qc_some']
        by_cases q8 : p 4 / 256 = 8
        · rw [if_pos (y8.mpr q8), decide_eq_true (Or.inr q8)]; rfl
        · rw [if_neg (fun e => q8 (y8.mp e)), decide_eq_false (by omega)]; rfl
    rw [ec, qc_some']
    cases he : ech p
    · rw [if_pos b_f]
      unfold f_X10_putBody_128
      rw [Z, qk_true, w_pair h (by simp only [List.length, List.length_append]; omega), qc_some', Z, qk_true, w_pair h (by simp only [List.length, List.length_append]; omega), qc_some', u0]
      simp only [List.append_assoc]
      rfl
    · rw [if_neg (show ¬ bI true = 0 by decide)]
      unfold f_X10_putBody_128
      rw [Z, qk_true, w_pair h (by simp only [List.length, List.length_append]; omega), qc_some', Z, qk_true, w_pair h (by simp only [List.length, List.length_append]; omega), qc_some', u0, un_lit _ (by omega)]
      simp only [List.append_assoc]
      rfl
/-- the sums -/
def hs (g : Nat → Int32) (l : List Nat) : Nat := 65535 - fd (fd (rsm (wr g l) 20 0))
def bs (g : Nat → Int32) (l : List Nat) (A : Nat) : Nat := 65535 - fd (fd (A + rsm (wr g l) l.length 20))
def bs' (p1 : Nat) (v : Nat) : Nat := if p1 = 17 ∧ v = 0 then 65535 else v
def PL (g : Nat → Int32) (p : Nat → Nat) : List Nat := if p 1 = 6 ∨ p 1 = 17 ∨ p 1 = 1 then st2 (st2 (HL p (rst p)) 10 (hs g (HL p (rst p))) ++ BL p) (20 + spl (p 1)) (bs' (p 1) (bs g (st2 (HL p (rst p)) 10 (hs g (HL p (rst p))) ++ BL p) (sed (wr g (st2 (HL p (rst p)) 10 (hs g (HL p (rst p))) ++ BL p)) (20 + rst p) 20))) else st2 (HL p (rst p)) 10 (hs g (HL p (rst p)))
theorem k_pput (h : Sh S) (hF : 16400 ≤ F) {p : Nat → Nat} (pk : PK S 345 p) : f_X10_put_32 F 345 3 (nI (p 1)) (nI (rst p)) (CW S g []) = some ((), CW S g (PL g p)) := by
  have w := pk.2.2.2.2.2.2
  obtain ⟨w0, w1, w2, w3, w4, w5, w6⟩ := w
  have rl : rst p ≤ 20 := by unfold rst; (repeat' split) <;> omega
  rw [k_head h pk rl]
  have sm : f_X10_sum F (CW S g (HL p (rst p))) 3 0 20 0 = some (nI (fd (fd (0 + rsm (wr g (HL p (rst p))) 20 0))), CW S g (HL p (rst p))) := k_sum (F := F) (k := 0) (A := 0) (to := 20) (CO_CW h (by rw [HL_len]; omega)) hF (by rw [HL_len]; omega) (by omega) (by omega) (by omega)
  rw [Nat.zero_add] at sm
  have r1 := rsm_le (wr g (HL p (rst p))) 20 0
  have f1 : fd (fd (rsm (wr g (HL p (rst p))) 20 0)) ≤ 65535 := fd2_le (by omega)
  have e1 : (65535 : Int32) - nI (fd (fd (rsm (wr g (HL p (rst p))) 20 0))) = nI (hs g (HL p (rst p))) := pk_sub (a := 65535) f1
  have h1 : hs g (HL p (rst p)) < 65536 := by unfold hs; omega
  have s1 : f_X2_setPair F (CW S g (HL p (rst p))) 3 10 (nI (hs g (HL p (rst p)))) = some ((), CW S g (st2 (HL p (rst p)) 10 (un (nI (hs g (HL p (rst p))))))) := w_set (F := F) h (by rw [HL_len]; omega) (k := 10) (by rw [HL_len]; omega) (nI (hs g (HL p (rst p))))
  rw [un_lit _ (by omega)] at s1
  rw [sm, qc_some', z_i3 (Sh_CW h _ _), qk_true, e1, s1, qc_some']
  unfold PL
  by_cases hb : p 1 = 6 ∨ p 1 = 17 ∨ p 1 = 1
  · have rp : 1 ≤ rst p := by
      unfold rst
      by_cases c6 : p 1 = 6
      · rw [if_pos c6]; omega
      · rw [if_neg c6, if_pos (by omega)]; omega
    have bl := BL_len p hb
    rw [if_neg (show ¬ nI (rst p) ≤ 0 from nI_nle (by omega) (by omega)), if_pos hb, k_body h pk hb (by rw [st2_len, HL_len]; omega), qc_some']
    generalize hl2 : st2 (HL p (rst p)) 10 (hs g (HL p (rst p))) ++ BL p = l2
    have ln : l2.length = 20 + rst p := by rw [← hl2, List.length_append, st2_len, HL_len, bl]
    have c2 := CO_CW (g := g) (l := l2) h (by omega)
    have sl := sed_lt (wr g l2) (m := l2.length) (T := 20) (by omega)
    have se : f_X10_seed F (CW S g l2) 3 20 = some (nI (sed (wr g l2) l2.length 20), CW S g l2) := k_seedA c2 (by omega) (by omega) (T := 20) (by omega)
    have sm2 : f_X10_sum F (CW S g l2) 3 20 (nI l2.length) (nI (sed (wr g l2) l2.length 20)) = some (nI (fd (fd (sed (wr g l2) l2.length 20 + rsm (wr g l2) l2.length 20))), CW S g l2) := k_sum (F := F) (k := 20) c2 hF (Nat.le_refl _) (by omega) (by omega) sl
    have r2 := rsm_le (wr g l2) l2.length 20
    have f2 : fd (fd (sed (wr g l2) l2.length 20 + rsm (wr g l2) l2.length 20)) ≤ 65535 := fd2_le (by omega)
    have e2 : (65535 : Int32) - nI (fd (fd (sed (wr g l2) l2.length 20 + rsm (wr g l2) l2.length 20))) = nI (bs g l2 (sed (wr g l2) l2.length 20)) := pk_sub (a := 65535) f2
    have sp : f_X10_sumPlace F (CW S g l2) (nI (p 1)) = some (nI (spl (p 1)), CW S g l2) := by
      unfold f_X10_sumPlace spl
      by_cases c6 : p 1 = 6
      · rw [if_pos (show nI (p 1) = 6 by rw [c6]; rfl), if_pos c6]; rfl
      · rw [if_neg (show ¬ nI (p 1) = 6 from fun e => c6 ((nI_eq (b := 6) (by omega) (by omega)).mp e)), if_neg c6]
        by_cases c17 : p 1 = 17
        · rw [if_pos (show nI (p 1) = 17 by rw [c17]; rfl), if_pos c17]; rfl
        · rw [if_neg (show ¬ nI (p 1) = 17 from fun e => c17 ((nI_eq (b := 17) (by omega) (by omega)).mp e)), if_neg c17]; rfl
    have spb : 20 + spl (p 1) + 1 < l2.length := by
      rw [ln]
      unfold spl rst
      by_cases c6 : p 1 = 6
      · rw [if_pos c6, if_pos c6]; omega
      · rw [if_neg c6, if_neg c6, if_pos (show p 1 = 17 ∨ p 1 = 1 by omega)]
        split <;> omega
    have g101 : gI (CW S g l2) 101 3 = nI l2.length := rd_eq _ _ _ _
    rw [z_i3 (Sh_CW h _ _), qk_true, qv_eq, g101, se, qc_some', sm2, qc_some', sp, qc_some', e2, ← ln]
    have bsl : bs g l2 (sed (wr g l2) l2.length 20) < 65536 := by unfold bs; omega
    generalize bs g l2 (sed (wr g l2) l2.length 20) = v at bsl
    have fin : ∀ y, y < 65536 → f_X10_put_163 F (nI y) (20 + nI (spl (p 1))) 3 (CW S g l2) = some ((), CW S g (st2 l2 (20 + spl (p 1)) y)) := by
      intro y hy
      have := w_set (F := F) (g := g) h (by omega : l2.length ≤ 3000) spb (nI y)
      rw [un_lit _ (by omega)] at this
      unfold f_X10_put_163
      rw [z_i3 (Sh_CW h _ _), qk_true, show (20 : Int32) + nI (spl (p 1)) = nI (20 + spl (p 1)) from nI_add 20 _, this, qc_some']
    have zv : nI v = 0 ↔ v = 0 := nI_eq (b := 0) (by omega) (by omega)
    have z17 : nI (p 1) = 17 ↔ p 1 = 17 := nI_eq (b := 17) (by omega) (by omega)
    unfold bs'
    by_cases c17 : p 1 = 17
    · rw [if_pos (z17.mpr c17)]
      by_cases v0 : v = 0
      · rw [if_pos (zv.mpr v0), if_pos ⟨c17, v0⟩]
        exact fin 65535 (by omega)
      · rw [if_neg (fun e => v0 (zv.mp e)), if_neg (fun e => v0 e.2), fin v bsl]
    · rw [if_neg (fun e => c17 (z17.mp e)), if_neg (fun e => c17 e.1), fin v bsl]
  · have r0 : rst p = 0 := by unfold rst; rw [if_neg (by omega), if_neg (by omega)]
    rw [if_neg hb, r0, if_pos (by decide)]
end PACK2
