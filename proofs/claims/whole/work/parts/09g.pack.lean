section PACK6
variable {S : gk_S} {F : Nat} {g : Nat → Int32} {l : List Nat}
theorem wr_left (g : Nat → Int32) (l m : List Nat) {i : Nat} (hi : i < l.length) : wr g (l ++ m) i = wr g l i := by
  unfold wr
  rw [if_pos (by rw [List.length_append]; omega), if_pos hi, List.getD_eq_getElem?_getD, List.getD_eq_getElem?_getD, List.getElem?_append_left hi]
theorem rsm_left (g : Nat → Int32) (l m : List Nat) {to k : Nat} (ht : to ≤ l.length) : rsm (wr g (l ++ m)) to k = rsm (wr g l) to k := by
  unfold rsm
  refine rs_congr (fun i hi => ?_) _ _
  unfold bt
  rw [wr_left g l m (by omega)]
theorem st2_left (l m : List Nat) {k : Nat} (v : Nat) (hk : k + 1 < l.length) : st2 (l ++ m) k v = st2 l k v ++ m := by
  unfold st2
  rw [List.set_append_left _ _ (by omega), List.set_append_left _ _ (by rw [List.length_set]; omega)]
theorem v_319 (h : Sh S) (hF : 16400 ≤ F) {p : Nat → Nat} (lm : LM S p) : f_X12_pack_319 F 352 (nI (p 1)) (nI (rst p)) (MW S g (HL p (rst p) ++ if p 1 = 6 ∨ p 1 = 17 ∨ p 1 = 1 then BL p else [])) = some (nI (PL g p).length, MW S g (PL g p)) := by
  have w := lm.1
  obtain ⟨w0, w1, w2, w3, w4, w5, w6⟩ := w
  have rl : rst p ≤ 20 := by unfold rst; (repeat' split) <;> omega
  have Z := fun l => Sh_MW h g l
  have p1r := lm.2 1 (by omega)
  have z6 : nI (p 1) = 6 ↔ p 1 = 6 := nI_eq (b := 6) (by omega) (by omega)
  have z17 : nI (p 1) = 17 ↔ p 1 = 17 := nI_eq (b := 17) (by omega) (by omega)
  have z1 : nI (p 1) = 1 ↔ p 1 = 1 := nI_eq (b := 1) (by omega) (by omega)
  generalize hB : (if p 1 = 6 ∨ p 1 = 17 ∨ p 1 = 1 then BL p else []) = B
  have Bl : B.length = rst p := by
    rw [← hB]
    by_cases hb : p 1 = 6 ∨ p 1 = 17 ∨ p 1 = 1
    · rw [if_pos hb]; exact BL_len p hb
    · rw [if_neg hb]
      unfold rst
      rw [if_neg (by omega), if_neg (by omega)]
      rfl
  have l0 : (HL p (rst p) ++ B).length = 20 + rst p := by rw [List.length_append, HL_len, Bl]
  have s1 : f_X12_sumAt F (MW S g (HL p (rst p) ++ B)) 352 10 0 20 0 = some ((), MW S g (st2 (HL p (rst p)) 10 (hs g (HL p (rst p))) ++ B)) := by
    have k := v_sum (F := F) (g := g) (l := HL p (rst p) ++ B) h hF (by omega : p 1 < 256) p1r (wh := 10) (k := 0) (to := 20) (A := 0) (by omega) (by omega) (by omega) (by omega) (by omega) (by omega)
    rw [if_neg (show ¬ (p 1 = 17 ∧ 20 < 10 ∧ 65535 - fd (fd (0 + rsm (wr g (HL p (rst p) ++ B)) 20 0)) = 0) by omega), rsm_left g _ B (by rw [HL_len]; omega), st2_left _ B _ (by rw [HL_len]; omega), Nat.zero_add] at k
    exact k
  generalize hl2 : st2 (HL p (rst p)) 10 (hs g (HL p (rst p))) ++ B = l2 at s1
  have ln : l2.length = 20 + rst p := by rw [← hl2, List.length_append, st2_len, HL_len, Bl]
  have o12 : f_X12_outTwo F (MW S g l2) 352 12 = some (nI (wd (wr g l2) 12), MW S g l2) := v_out h (k := 12) (by omega)
  have o14 : f_X12_outTwo F (MW S g l2) 352 14 = some (nI (wd (wr g l2) 14), MW S g l2) := v_out h (k := 14) (by omega)
  have o16 : f_X12_outTwo F (MW S g l2) 352 16 = some (nI (wd (wr g l2) 16), MW S g l2) := v_out h (k := 16) (by omega)
  have o18 : f_X12_outTwo F (MW S g l2) 352 18 = some (nI (wd (wr g l2) 18), MW S g l2) := v_out h (k := 18) (by omega)
  have g921 : ∀ l, gI (MW S g l) 921 352 = nI l.length := fun l => rd_eq _ _ _ _
  have b9 : bt (wr g l2) 9 = p 1 := by
    have e : l2.getD 9 0 = p 1 := by rw [← hl2]; rfl
    rw [bt_wr g (by omega) (by rw [e]; omega), e]
  have m1 := wd_lt (wr g l2) 12
  have m2 := wd_lt (wr g l2) 14
  have m3 := wd_lt (wr g l2) 16
  have m4 := wd_lt (wr g l2) 18
  unfold f_X12_pack_319
  rw [z_i352 (Z _), qk_true, s1, qc_some', z_i352 (Z _), qk_true, o12, qc_some', z_i352 (Z _), qk_true, o14, qc_some', z_i352 (Z _), qk_true, o16, qc_some', z_i352 (Z _), qk_true, o18, qc_some', qv_eq, nI_add, nI_add, nI_add, nI_add, nI_add]
  unfold PL
  by_cases hb : p 1 = 6 ∨ p 1 = 17 ∨ p 1 = 1
  · rw [if_pos hb] at hB
    rw [if_pos hb, hB, hl2]
    have fin : ∀ A, A = sed (wr g l2) (20 + rst p) 20 → A < 1000000 → f_X12_sumAt F (MW S g l2) 352 (nI (20 + spl (p 1))) (nI 20) (nI (20 + rst p)) (nI A) = some ((), MW S g (st2 l2 (20 + spl (p 1)) (bs' (p 1) (bs g l2 (sed (wr g l2) (20 + rst p) 20))))) := by
      intro A eA hA
      have spb : 20 + spl (p 1) + 1 < l2.length := by
        rw [ln]
        unfold spl rst
        by_cases c6 : p 1 = 6
        · rw [if_pos c6, if_pos c6]; omega
        · rw [if_neg c6, if_neg c6, if_pos (show p 1 = 17 ∨ p 1 = 1 by omega)]
          split <;> omega
      have ev : (20 + rst p - 20) % 2 = 0 := by
        unfold rst
        (repeat' split) <;> omega
      have sp1 : 0 < spl (p 1) := by unfold spl; (repeat' split) <;> omega
      have k := v_sum (F := F) (g := g) (l := l2) h hF (by omega : p 1 < 256) p1r (wh := 20 + spl (p 1)) (k := 20) (to := 20 + rst p) (A := A) spb (by omega) (by omega) (by omega) ev hA
      rw [k, ← eA]
      congr 3
      unfold bs' bs
      rw [ln]
      by_cases q : p 1 = 17 ∧ 65535 - fd (fd (A + rsm (wr g l2) (20 + rst p) 20)) = 0
      · rw [if_pos q, if_pos ⟨q.1, by omega, q.2⟩]
      · rw [if_neg q, if_neg (fun e => q ⟨e.1, e.2.2⟩)]
    generalize hfl : st2 l2 (20 + spl (p 1)) (bs' (p 1) (bs g l2 (sed (wr g l2) (20 + rst p) 20))) = lf at fin
    by_cases pp : p 1 = 6 ∨ p 1 = 17
    · have es : wd (wr g l2) 12 + wd (wr g l2) 14 + wd (wr g l2) 16 + wd (wr g l2) 18 + p 1 + rst p = sed (wr g l2) (20 + rst p) 20 := by
        unfold sed
        rw [b9, if_pos pp]
        omega
      have f1 := fin _ es (by omega)
      by_cases c6 : p 1 = 6
      · have e1 : spl (p 1) = 16 := by unfold spl; rw [if_pos c6]
        have e2 : rst p = 20 := by unfold rst; rw [if_pos c6]
        rw [e1, show nI (20 + 16) = 36 from rfl, show nI 20 = 20 from rfl] at f1
        have f1' : f_X12_sumAt F (MW S g l2) 352 36 20 40 (nI (wd (wr g l2) 12 + wd (wr g l2) 14 + wd (wr g l2) 16 + wd (wr g l2) 18 + p 1 + rst p)) = some ((), MW S g lf) := by
          rw [← f1, e2]
          rfl
        unfold f_X12_pack_378 f_X12_pack_395
        rw [if_pos (z6.mpr c6), z_i352 (Z _), qk_true, f1', qc_some', if_neg (fun e => by have := z17.mp e; omega), if_neg (fun e => by have := z1.mp e; omega), z_i352 (Z _), qk_true, qv_eq, g921]
      · have c17 : p 1 = 17 := by omega
        have e1 : spl (p 1) = 6 := by unfold spl; rw [if_neg c6, if_pos c17]
        have e2 : rst p = 8 := by unfold rst; rw [if_neg c6, if_pos (Or.inl c17)]
        rw [e1, show nI (20 + 6) = 26 from rfl, show nI 20 = 20 from rfl] at f1
        have f1' : f_X12_sumAt F (MW S g l2) 352 26 20 28 (nI (wd (wr g l2) 12 + wd (wr g l2) 14 + wd (wr g l2) 16 + wd (wr g l2) 18 + p 1 + rst p)) = some ((), MW S g lf) := by
          rw [← f1, e2]
          rfl
        unfold f_X12_pack_378 f_X12_pack_395
        rw [if_neg (fun e => c6 (z6.mp e)), if_pos (z17.mpr c17), z_i352 (Z _), qk_true, f1', qc_some', if_neg (fun e => by have := z1.mp e; omega), z_i352 (Z _), qk_true, qv_eq, g921]
    · have c1 : p 1 = 1 := by omega
      have es : 0 = sed (wr g l2) (20 + rst p) 20 := by
        unfold sed
        rw [b9, if_neg pp]
      have f1 := fin 0 es (by omega)
      have e1 : spl (p 1) = 2 := by unfold spl; rw [if_neg (by omega), if_neg (by omega)]
      have e2 : rst p = 8 := by unfold rst; rw [if_neg (by omega), if_pos (Or.inr c1)]
      have f1' : f_X12_sumAt F (MW S g l2) 352 22 20 28 0 = some ((), MW S g lf) := by
        rw [← f1, e1, e2]
        rfl
      unfold f_X12_pack_378 f_X12_pack_395
      rw [if_neg (fun e => pp (Or.inl (z6.mp e))), if_neg (fun e => pp (Or.inr (z17.mp e))), if_pos (z1.mpr c1), z_i352 (Z _), qk_true, f1', qc_some', z_i352 (Z _), qk_true, qv_eq, g921]
  · rw [if_neg hb] at hB
    rw [if_neg hb]
    unfold f_X12_pack_378 f_X12_pack_395
    rw [if_neg (fun e => hb (Or.inl (z6.mp e))), if_neg (fun e => hb (Or.inr (Or.inl (z17.mp e)))), if_neg (fun e => hb (Or.inr (Or.inr (z1.mp e)))), z_i352 (Z _), qk_true, qv_eq, g921, ← hl2, ← hB, List.append_nil]
theorem v_pack (h : Sh S) (hF : 16400 ≤ F) {p : Nat → Nat} (lm : LM S p) : f_X12_pack_62 F 352 (nI (p 1)) (nI (rst p)) (MW S g []) = some (nI (PL g p).length, MW S g (PL g p)) := by
  have rl : rst p ≤ 20 := by unfold rst; (repeat' split) <;> omega
  rw [v_62 h lm rl, v_110 h hF lm _ rfl]
  have k := v_body (F := F) (g := g) (l := HL p (rst p)) h hF lm (rst p) (HL_len _ _)
  have k2 := v_319 (F := F) (g := g) h hF lm
  rw [← k] at k2
  exact k2
theorem c_pack {t : Nat} (hI : Inv S t) (hF : 16400 ≤ F) : OkT (f_L_pack F S 0 372) (fun S1 => f_X12_pack F S1 352) t := by
  obtain ⟨h0, i1, ⟨m, hm, g1, g2, g3⟩, i3, i4, i5, i6, i7, i8⟩ := id hI
  have i6' := i6
  obtain ⟨Q, C, n, mx, tm, -, -, -, -, -, -, -, -, -, -, -, -, a9, -⟩ := i6'
  by_cases c0 : gI S 813 0 = 0
  · refine okT_thr hI one_ne ?_ ?_
    · unfold f_L_pack f_X11_pack
      rw [z_i0 h0, qk_true, qk_true, qv_eq, if_pos c0, qh_inr', if_pos rfl]
    · have e : gI (cS S) 935 352 = 0 := a9.symm.trans c0
      show f_X12_pack F (cS S) 352 = _
      unfold f_X12_pack f_X12_pack_13
      rw [z_i352 (Sh_c h0), qk_true, qv_eq, if_pos e, qk_true, m_ti1 (Sh_c h0), qc_some', if_neg one_ne]
  obtain ⟨p, wp, p1, p2, p3⟩ := id i7
  have w := wp
  obtain ⟨w0, w1, w2, w3, w4, w5, w6⟩ := w
  have pk : PK S 345 p := ⟨z_i345 h0, z_p200_345 h0, z_i346 h0, z_l346 h0, p1, p2, wp⟩
  have z6 : nI (p 1) = 6 ↔ p 1 = 6 := nI_eq (b := 6) (by omega) (by omega)
  have z17 : nI (p 1) = 17 ↔ p 1 = 17 := nI_eq (b := 17) (by omega) (by omega)
  have z1 : nI (p 1) = 1 ↔ p 1 = 1 := nI_eq (b := 1) (by omega) (by omega)
  have eC : sI S 101 3 0 = CW S (xI S 4) [] := by
    unfold CW oc
    rw [wr_nil, rI_id S 4 rfl]
    rfl
  have kp := k_pput (F := F) (g := xI S 4) h0 hF pk
  have cl : ∀ l, gI (CW S (xI S 4) l) 101 3 = nI l.length := fun l => rd_eq _ _ _ _
  generalize hL : PL (xI S 4) p = L at kp
  have hc : f_X11_pack F S 0 = some (.inl (nI L.length), CW S (xI S 4) L) := by
    have P0 := PK_CW (g := xI S 4) (l := []) pk
    have e1 : aJ (CW S (xI S 4) []) (345 + 1) 1 = lN (p 1) := P0.2.2.2.2.1 1 (by omega)
    have pp : f_X10_put F (CW S (xI S 4) []) 345 3 = some ((), CW S (xI S 4) L) := by
      unfold f_X10_put
      rw [P0.1, qk_true, P0.2.1, qP_some', P0.2.2.1, qk_true, P0.2.2.2.1, show inb 1 6 = true from rfl, qk_true, qv_eq, e1, lN_i]
      by_cases c6 : p 1 = 6
      · have e2 : rst p = 20 := by unfold rst; rw [if_pos c6]
        rw [e2] at kp
        rw [if_pos (z6.mpr c6)]
        exact kp
      · rw [if_neg (fun e => c6 (z6.mp e)), k_hsb (by omega), qc_some']
        cases hh : hsb (p 1)
        · have hn : ¬ (p 1 = 6 ∨ p 1 = 17 ∨ p 1 = 1) := of_decide_eq_false hh
          have e2 : rst p = 0 := by unfold rst; rw [if_neg c6, if_neg (by omega)]
          rw [e2] at kp
          rw [if_pos b_f]
          exact kp
        · have hn : p 1 = 6 ∨ p 1 = 17 ∨ p 1 = 1 := of_decide_eq_true hh
          have e2 : rst p = 8 := by unfold rst; rw [if_neg c6, if_pos (by omega)]
          rw [e2] at kp
          rw [if_neg (show ¬ bI true = 0 by decide)]
          exact kp
    unfold f_X11_pack
    rw [z_i0 h0, qk_true, qv_eq, if_neg c0, z_p801_0 h0, qP_some', z_i3 h0, qk_true, qv_eq, eC, z_p806_0 (Sh_CW h0 _ _), qP_some', z_p801_0 (Sh_CW h0 _ _), qP_some', pp, qc_some', z_i0 (Sh_CW h0 _ _), qk_true, z_p801_0 (Sh_CW h0 _ _), qP_some', z_i3 (Sh_CW h0 _ _), qk_true, qv_eq, cl]
  have LL : L.length ≤ 40 := by
    rw [← hL]
    unfold PL
    have rl : rst p ≤ 20 := by unfold rst; (repeat' split) <;> omega
    by_cases hb : p 1 = 6 ∨ p 1 = 17 ∨ p 1 = 1
    · rw [if_pos hb, st2_len, List.length_append, st2_len, HL_len, BL_len p hb]; omega
    · rw [if_neg hb, st2_len, HL_len]; omega
  generalize hv : nI L.length = v at hc
  have Hc : Sh (wJ (CW S (xI S 4) L) 372 0 v.toInt64) := Sh_wJ (Sh_CW h0 _ _) _ _ _
  have HX := Sh_sI Hc 900 352 0
  have eM : sI (sI (wJ (CW S (xI S 4) L) 372 0 v.toInt64) 900 352 0) 921 352 0 = MW (sI (wJ (CW S (xI S 4) L) 372 0 v.toInt64) 900 352 0) (xI S 4) [] := by
    unfold MW
    rw [wr_nil, rI_id _ 363 (show xI (sI (wJ (CW S (xI S 4) L) 372 0 v.toInt64) 900 352 0) 363 = xI S 4 from g3)]
    rfl
  have lm : LM (sI (wJ (CW S (xI S 4) L) 372 0 v.toInt64) 900 352 0) p := ⟨wp, p3⟩
  have vp := v_pack (F := F) (g := xI S 4) HX hF lm
  rw [hL, hv] at vp
  refine ⟨0, wJ (CW S (xI S 4) L) 372 0 v.toInt64, v, MW (sI (wJ (CW S (xI S 4) L) 372 0 v.toInt64) 900 352 0) (xI S 4) L, ?_, ?_, ?_, fun _ => ?_, ?_⟩
  · unfold f_L_pack
    rw [z_i0 h0, qk_true, hc, qh_inl', z_i372 (Sh_CW h0 _ _), qk_true, z_l372 (Sh_CW h0 _ _), in0_1, qk_true, qv_eq]
  · show f_X12_pack F (wJ (CW S (xI S 4) L) 372 0 v.toInt64) 352 = _
    have e935 : ¬ gI (wJ (CW S (xI S 4) L) 372 0 v.toInt64) 935 352 = 0 := by
      rw [gI_wJ]
      unfold CW oc
      rw [rd_ne _ _ (Or.inl (by decide))]
      show ¬ gI S 935 352 = 0
      rw [← a9]
      exact c0
    have a1 : aI (MW (sI (wJ (CW S (xI S 4) L) 372 0 v.toInt64) 900 352 0) (xI S 4) []) 370 1 = nI (p 1) := p3 1 (by omega)
    have ZM := Sh_MW HX (xI S 4) []
    unfold f_X12_pack f_X12_pack_13
    rw [z_i352 Hc, qk_true, qv_eq, if_neg e935, qk_true, m_ti0 Hc, qc_some', if_pos rfl, z_i352 HX, qk_true, qv_eq, eM, z_p939_352 ZM, qP_some', z_i370 ZM, qk_true, z_l370 ZM, show inb 1 7 = true from rfl, qk_true, qv_eq, a1]
    by_cases c6 : p 1 = 6
    · have e2 : rst p = 20 := by unfold rst; rw [if_pos c6]
      rw [e2] at vp
      rw [if_pos (z6.mpr c6)]
      exact vp
    rw [if_neg (fun e => c6 (z6.mp e))]
    by_cases c17 : p 1 = 17
    · have e2 : rst p = 8 := by unfold rst; rw [if_neg c6, if_pos (Or.inl c17)]
      rw [e2] at vp
      rw [if_pos (z17.mpr c17)]
      exact vp
    rw [if_neg (fun e => c17 (z17.mp e))]
    by_cases c1 : p 1 = 1
    · have e2 : rst p = 8 := by unfold rst; rw [if_neg c6, if_pos (Or.inr c1)]
      rw [e2] at vp
      rw [if_pos (z1.mpr c1)]
      exact vp
    · have e2 : rst p = 0 := by unfold rst; rw [if_neg c6, if_neg (by omega)]
      rw [e2] at vp
      rw [if_neg (fun e => c1 (z1.mp e))]
      exact vp
  · unfold MW
    rw [rd_ne _ _ (Or.inl (by decide))]
    show gI (sI (wJ (CW S (xI S 4) L) 372 0 v.toInt64) 900 352 0) 900 352 = 0
    rw [rd_eq]
  · rfl
  · have F4 : Frm [101, 900, 921] [] [] [4, 363] [372] [] S (MW (sI (wJ (CW S (xI S 4) L) 372 0 v.toInt64) 900 352 0) (xI S 4) L) := Fr_sI (Fr_rI (Fr_sI (Fr_wJ (Fr_sI (Fr_rI Fr_refl (by decide) _) (by decide) _ _) (by decide) _ _) (by decide) _ _) (by decide) _) (by decide) _ _
    have e101 : ∀ a, gI (MW (sI (wJ (CW S (xI S 4) L) 372 0 v.toInt64) 900 352 0) (xI S 4) L) 101 a = gI (CW S (xI S 4) L) 101 a := by
      intro a
      unfold MW
      rw [rd_ne _ _ (Or.inl (by decide))]
      show gI (sI (wJ (CW S (xI S 4) L) 372 0 v.toInt64) 900 352 0) 101 a = _
      rw [rd_ne _ _ (Or.inl (by decide)), gI_wJ]
    have e921 : gI (MW (sI (wJ (CW S (xI S 4) L) 372 0 v.toInt64) 900 352 0) (xI S 4) L) 921 352 = nI L.length := rd_eq _ _ _ _
    have x4 : xI (MW (sI (wJ (CW S (xI S 4) L) 372 0 v.toInt64) 900 352 0) (xI S 4) L) 4 = wr (xI S 4) L := rfl
    have x363 : xI (MW (sI (wJ (CW S (xI S 4) L) 372 0 v.toInt64) 900 352 0) (xI S 4) L) 363 = wr (xI S 4) L := rfl
    obtain ⟨R, LL2, lc, lt⟩ := Ls_el i5
    generalize MW (sI (wJ (CW S (xI S 4) L) 372 0 v.toInt64) 900 352 0) (xI S 4) L = T at F4 e101 e921 x4 x363
    refine ⟨Fr_Sh F4 h0 (by decide) (by decide), Tp_c i1 ?_ (F4.2.2.2.1 902 352 (by decide)) (F4.2.2.2.2.2.2.1 353 (by decide)) (F4.2.2.2.2.2.2.1 2 (by decide)), ⟨L.length, by omega, by rw [e101, cl], e921, by rw [x4, x363]⟩, Fr_Fnd F4 i3 (by decide), Fr_Wd F4 i4 (by decide), Ls_in (Fr_LsC F4 lc (by decide) (by decide) (by decide) (by decide) (by decide)) (Fr_LsT F4 lt (by decide) (by decide)), Fr_Tb F4 i6 (by decide) (by decide) (by decide) (by decide), Fr_Lp F4 i7 (by decide), Fr_Se F4 i8 (by decide)⟩
    rw [e101]
    unfold CW oc
    rw [rd_ne _ _ (Or.inr (by decide))]
    rfl
end PACK6
