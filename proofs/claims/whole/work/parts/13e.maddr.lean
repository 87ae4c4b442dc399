/-! the model reads addresses -/
section MAD
variable {S T : gk_S} {F m : Nat} {b : Nat → Nat} {A A' : AS}
theorem v_addr8 (hF : 16400 ≤ F) {T4 : gk_S} {A2 : AS} (r : MA T4 b m A2) (hA2 : WA m A2) (hw2 : A2.w = 8) (el : A2.c.lo A2.t = A2.f) (y23 : A2.t = 2 ∨ A2.t = 3) : MO T4 b m (qk (isb T4 352 9) <| qv (gI T4 914 352) fun x168 => if x168 = (3 : Int32) then (qc (f_X12_isLate F T4 352) fun x181 S182 => if x181 = (0 : Int32) then (qk (isb S182 352 9) <| qv (gJ S182 917 352) fun x189 => qP (gP S182 909 352) fun b192 => qk (isb S182 b192 12) <| qk (inb (nI (6 * (64 + A2.L.n) + A2.t)) (gL S182 b192)) <| qv (aJ S182 b192 (nI (6 * (64 + A2.L.n) + A2.t))) fun x199 => if x199 ≤ x189 then (qP (gP S182 910 352) fun b204 => qv (gJ S182 917 352) fun x207 => qk (isb S182 b204 12) <| qk (inb (nI (6 * (64 + A2.L.n) + A2.t)) (gL S182 b204)) <| qv (wJ S182 b204 (nI (6 * (64 + A2.L.n) + A2.t)) x207) fun S214 => qc (f_X12_next F S214 352) fun x217 S218 => some (1, S218)) else qc (f_X12_wrong F S182 352 3) fun x221 S222 => qk (zb x221) <| some (x221, S222)) else f_X12_readAddresses_72 F 352 S182) else f_X12_readAddresses_72 F 352 T4) A2 (PQr b m A2) := by
  have m2 := r.1.2.2.1
  have h0 : A2.w ≠ 0 := by omega
  obtain ⟨w1, w2, w3, w4⟩ := hA2.2.2.2.2.2.1 (by omega)
  have ht := hA2.2.2.2.2.2.2.1 (by omega) (by omega)
  have hf := hA2.2.2.2.2.2.2.2.1 (by omega) (by omega)
  have v := MA_v r hA2
  have cc := r.2.2.2.2.2 (by omega : 5 ≤ A2.w)
  have tf := tk_TF b hA2.1
  have tpe := tp23 y23
  have tq := tak_8 (k := (tk b m A2.o).1) (v := (tk b m A2.o).2.1) (w := wk b (tk b m A2.o)) (e := (tk b m A2.o).2.2.2) hw2
  unfold tLast at tq
  rw [if_pos y23] at tq
  have bad : (tk b m A2.o).1 ≠ 3 → MO T4 b m (f_X12_readAddresses_72 F 352 T4) A2 (PQr b m A2) := by
    intro q
    rw [if_neg q] at tq
    unfold f_X12_readAddresses_72
    rw [z_i352 r.1.1, qk_true]
    exact Or.inl (MFt_w (v_cant r.1.1 hA2 h0 m2 v (fun _ _ => tq)))
  rw [z_i352 r.1.1, qk_true, qv_eq, v.2.1]
  by_cases ck : (tok b m (wsE b m A2.o)).1 = 3
  · rw [if_pos ((zk3 v).mpr ck), v.2.2.2.2.2 F, qc_some']
    by_cases l : (tk b m A2.o).1 = 6
    · rw [decide_eq_true l, if_neg (show ¬ bI true = 0 by decide)]
      exact bad (by omega)
    · obtain ⟨l1, -, l3, -, -, l6⟩ := v.2.2.1 l
      have k2 : (tk b m A2.o).1 = 3 := by omega
      have ev := l6 (Or.inr k2)
      have vl := tf.2.2.2.2 k2
      have z2 : lN A2.f ≤ lN (tk b m A2.o).2.1 ↔ A2.f ≤ (tk b m A2.o).2.1 := l_le (by omega) (by omega)
      have ea : aJ T4 358 (nI (6 * (64 + A2.L.n) + A2.t)) = lN A2.f := by unfold aJ; rw [nI_clamp (by omega), (cc.2.2 A2.t ht).1, el]
      have hx : 6 * (64 + A2.L.n) + A2.t < 576 := by omega
      rw [if_pos k2] at tq
      rw [decide_eq_false l, if_pos (show bI false = 0 from rfl), z_i352 r.1.1, qk_true, qv_eq, ev, z_p909_352 r.1.1, qP_some', z_i358 r.1.1, qk_true, z_l358 r.1.1, inb_n hx (by omega), qk_true, qv_eq, ea]
      by_cases q2 : A2.f ≤ (tk b m A2.o).2.1
      · rw [if_pos (z2.mpr q2), z_p910_352 r.1.1, qP_some', qv_eq, z_i359 r.1.1, qk_true, z_l359 r.1.1, inb_n hx (by omega), qk_true, qv_eq]
        rw [if_neg (by omega)] at tq
        obtain ⟨s1, s2, s3, s4⟩ := st_go hA2 h0 (by omega) l tq (by show 5 ≠ 0; decide)
        obtain ⟨A3, hA3⟩ : ∃ B : AS, B = (5, (tk b m A2.o).2.2.2, A2.n, A2.t, A2.f, upR A2.L (sRg A2.c A2.t A2.f (tk b m A2.o).2.1)) := ⟨_, rfl⟩
        rw [← hA3] at s1 s2 s3 s4
        have hl : ML4 (wJ T4 359 (nI (6 * (64 + A2.L.n) + A2.t)) (lN (tk b m A2.o).2.1)) A3.L (5 ≤ A3.w) := by
          rw [hA3]
          exact ML4_hi r.2.2 (by omega) ht w1 el _ _
        obtain ⟨T5, n1, n2, n3⟩ := v_adv (F := F) (A := A3) hF (MD_wJ r.1 359 (nI (6 * (64 + A2.L.n) + A2.t)) (lN (tk b m A2.o).2.1)) (by rw [gI_w, s3]; exact l3 (by omega)) s1.1 hl
        rw [n1, qc_some']
        exact Or.inr ⟨T5, A3, MF_trans (MF_wJ MF_refl (Or.inr rfl) (by omega) (by omega) _) n2, rfl, n3, s1, s4, Or.inl (by rw [hA3]), by rw [hA3]; rfl, by rw [hA3], s2⟩
      · rw [if_neg (fun q => q2 (z2.mp q))]
        rw [if_pos (by omega)] at tq
        exact Or.inl (MFt_w (v_wrongF (κ := 3) r.1.1 hA2 h0 m2 v (by omega) (by omega) (by omega) l tq))
  · rw [if_neg (fun q => ck ((zk3 v).mp q))]
    refine bad (fun q => ?_)
    have := v.2.2.1 (by omega)
    omega
theorem v_addr9 (hF : 16400 ≤ F) {T4 : gk_S} {A2 : AS} (r : MA T4 b m A2) (hA2 : WA m A2) (hw2 : A2.w = 9) (el : A2.c.lo A2.t = A2.f) (y23 : A2.t = 2 ∨ A2.t = 3) : MO T4 b m (qk (isb T4 352 9) <| qv (gI T4 914 352) fun x78 => if x78 = (2 : Int32) then (qc (f_X12_isLate F T4 352) fun x91 S92 => if x91 = (0 : Int32) then (qk (isb S92 352 9) <| qv (gJ S92 917 352) fun x99 => if x99 ≤ (32 : Int64) then (qv (gJ S92 917 352) fun x104 => qv (((4294967295 : Int64) >>> ((((x104 : Int64).toInt32) : Int32).toInt64 &&& 63))) fun x107 => qP (gP S92 909 352) fun b110 => qP (gP S92 909 352) fun b113 => qk (isb S92 b113 12) <| qk (inb (nI (6 * (64 + A2.L.n) + A2.t)) (gL S92 b113)) <| qv (aJ S92 b113 (nI (6 * (64 + A2.L.n) + A2.t))) fun x120 => qk (isb S92 b110 12) <| qk (inb (nI (6 * (64 + A2.L.n) + A2.t)) (gL S92 b110)) <| qv (wJ S92 b110 (nI (6 * (64 + A2.L.n) + A2.t)) (x120 &&& (x107 ^^^ (-1)))) fun S127 => qP (gP S127 910 352) fun b130 => qP (gP S127 909 352) fun b133 => qk (isb S127 b133 12) <| qk (inb (nI (6 * (64 + A2.L.n) + A2.t)) (gL S127 b133)) <| qv (aJ S127 b133 (nI (6 * (64 + A2.L.n) + A2.t))) fun x140 => qk (isb S127 b130 12) <| qk (inb (nI (6 * (64 + A2.L.n) + A2.t)) (gL S127 b130)) <| qv (wJ S127 b130 (nI (6 * (64 + A2.L.n) + A2.t)) (x140 ||| x107)) fun S147 => qc (f_X12_next F S147 352) fun x150 S151 => some (1, S151)) else qc (f_X12_wrong F S92 352 3) fun x154 S155 => qk (zb x154) <| some (x154, S155)) else f_X12_readAddresses_143 F 352 S92) else f_X12_readAddresses_143 F 352 T4) A2 (PQr b m A2) := by
  have m2 := r.1.2.2.1
  have h0 : A2.w ≠ 0 := by omega
  obtain ⟨w1, w2, w3, w4⟩ := hA2.2.2.2.2.2.1 (by omega)
  have ht := hA2.2.2.2.2.2.2.1 (by omega) (by omega)
  have hf := hA2.2.2.2.2.2.2.2.1 (by omega) (by omega)
  have v := MA_v r hA2
  have cc := r.2.2.2.2.2 (by omega : 5 ≤ A2.w)
  have tf := tk_TF b hA2.1
  have tpe := tp23 y23
  have tq := tak_9 (k := (tk b m A2.o).1) (v := (tk b m A2.o).2.1) (w := wk b (tk b m A2.o)) (e := (tk b m A2.o).2.2.2) hw2
  unfold tBits at tq
  have bad : (tk b m A2.o).1 ≠ 2 → MO T4 b m (f_X12_readAddresses_143 F 352 T4) A2 (PQr b m A2) := by
    intro q
    rw [if_neg q] at tq
    unfold f_X12_readAddresses_143
    rw [z_i352 r.1.1, qk_true]
    exact Or.inl (MFt_w (v_cant r.1.1 hA2 h0 m2 v (fun _ _ => tq)))
  rw [z_i352 r.1.1, qk_true, qv_eq, v.2.1]
  by_cases ck : (tok b m (wsE b m A2.o)).1 = 2
  · rw [if_pos ((zk2 v).mpr ck), v.2.2.2.2.2 F, qc_some']
    by_cases l : (tk b m A2.o).1 = 6
    · rw [decide_eq_true l, if_neg (show ¬ bI true = 0 by decide)]
      exact bad (by omega)
    · obtain ⟨l1, -, l3, -, -, l6⟩ := v.2.2.1 l
      have k2 : (tk b m A2.o).1 = 2 := by omega
      have ev := l6 (Or.inl k2)
      have vl := tf.2.2.2.1 k2
      have zv : lN (tk b m A2.o).2.1 ≤ 32 ↔ (tk b m A2.o).2.1 ≤ 32 := l_le (b := 32) (by omega) (by omega)
      have ea : aJ T4 358 (nI (6 * (64 + A2.L.n) + A2.t)) = lN A2.f := by unfold aJ; rw [nI_clamp (by omega), (cc.2.2 A2.t ht).1, el]
      have hx : 6 * (64 + A2.L.n) + A2.t < 576 := by omega
      rw [if_pos k2] at tq
      rw [decide_eq_false l, if_pos (show bI false = 0 from rfl), z_i352 r.1.1, qk_true, qv_eq, ev]
      by_cases q2 : (tk b m A2.o).2.1 ≤ 32
      · rw [if_pos q2] at tq
        obtain ⟨s1, s2, s3, s4⟩ := st_go hA2 h0 (by omega) l tq (by show 5 ≠ 0; decide)
        obtain ⟨A3, hA3⟩ : ∃ B : AS, B = (5, (tk b m A2.o).2.2.2, A2.n, A2.t, A2.f, upR A2.L (sRg A2.c A2.t (bLo A2.f (tk b m A2.o).2.1) (bHi A2.f (tk b m A2.o).2.1))) := ⟨_, rfl⟩
        rw [← hA3] at s1 s2 s3 s4
        have g1 := MD_wJ r.1 358 (nI (6 * (64 + A2.L.n) + A2.t)) (lN (bLo A2.f (tk b m A2.o).2.1))
        have elo : lN A2.f &&& (lN (2 ^ (32 - (tk b m A2.o).2.1) - 1) ^^^ (-1)) = lN (bLo A2.f (tk b m A2.o).2.1) := l_mlo (by omega) (by omega)
        have ehi : lN (bLo A2.f (tk b m A2.o).2.1) ||| lN (2 ^ (32 - (tk b m A2.o).2.1) - 1) = lN (bHi A2.f (tk b m A2.o).2.1) := by
          rw [l_mhi (by omega)]
          unfold bLo bHi
          rw [lo_hi]
        have ea1 : aJ (wJ T4 358 (nI (6 * (64 + A2.L.n) + A2.t)) (lN (bLo A2.f (tk b m A2.o).2.1))) 358 (nI (6 * (64 + A2.L.n) + A2.t)) = lN (bLo A2.f (tk b m A2.o).2.1) := by unfold aJ; rw [nI_clamp (by omega), rw_eq _ _ (by omega), if_pos rfl]
        have hl : ML4 (wJ (wJ T4 358 (nI (6 * (64 + A2.L.n) + A2.t)) (lN (bLo A2.f (tk b m A2.o).2.1))) 359 (nI (6 * (64 + A2.L.n) + A2.t)) (lN (bHi A2.f (tk b m A2.o).2.1))) A3.L (5 ≤ A3.w) := by
          rw [hA3]
          exact ML4_rg r.2.2 (by omega) ht w1 _ _ _
        obtain ⟨T5, n1, n2, n3⟩ := v_adv (F := F) (A := A3) hF (MD_wJ g1 359 (nI (6 * (64 + A2.L.n) + A2.t)) (lN (bHi A2.f (tk b m A2.o).2.1))) (by rw [gI_w, gI_w, s3]; exact l3 (by omega)) s1.1 hl
        rw [if_pos (zv.mpr q2), qv_eq, qv_eq, lN_i, shr32 _ (by omega), z_p909_352 r.1.1, qP_some', qP_some', z_i358 r.1.1, qk_true, z_l358 r.1.1, inb_n hx (by omega), qk_true, qv_eq, ea, qk_true, qk_true, elo, qv_eq]
        rw [z_p910_352 g1.1, qP_some', z_p909_352 g1.1, qP_some', z_i358 g1.1, qk_true, z_l358 g1.1, inb_n hx (by omega), qk_true, qv_eq, ea1, z_i359 g1.1, qk_true, z_l359 g1.1, inb_n hx (by omega), qk_true, ehi, qv_eq, n1, qc_some']
        exact Or.inr ⟨T5, A3, MF_trans (MF_wJ (MF_wJ MF_refl (Or.inl rfl) (by omega) (by omega) _) (Or.inr rfl) (by omega) (by omega) _) n2, rfl, n3, s1, s4, Or.inl (by rw [hA3]), by rw [hA3]; rfl, by rw [hA3], s2⟩
      · rw [if_neg (fun q => q2 (zv.mp q))]
        rw [if_neg q2] at tq
        exact Or.inl (MFt_w (v_wrongF (κ := 3) r.1.1 hA2 h0 m2 v (by omega) (by omega) (by omega) l tq))
  · rw [if_neg (fun q => ck ((zk2 v).mp q))]
    refine bad (fun q => ?_)
    have := v.2.2.1 (by omega)
    omega
theorem v_addr (hF : 16400 ≤ F) (h : MA T b m A) (hA : WA m A) (hw : A.w = 6) (y23 : A.t = 2 ∨ A.t = 3) : MO T b m (f_X12_readAddresses F T 352 (nI (6 * (64 + A.L.n) + A.t))) A (PQr b m A) := by
  have m2 := h.1.2.2.1
  have h0 : A.w ≠ 0 := by omega
  obtain ⟨w1, w2, w3, w4⟩ := hA.2.2.2.2.2.1 (by omega)
  have ht := hA.2.2.2.2.2.2.1 (by omega) (by omega)
  have v := MA_v h hA
  have tf := tk_TF b hA.1
  have tpe := tp23 y23
  have hx : 6 * (64 + A.L.n) + A.t < 576 := by omega
  have tq := tak_6 (k := (tk b m A.o).1) (v := (tk b m A.o).2.1) (w := wk b (tk b m A.o)) (e := (tk b m A.o).2.2.2) hw
  unfold tVal at tq
  rw [if_neg (show ¬ (A.t = 1 ∧ (tk b m A.o).1 = 1) by omega), if_pos y23] at tq
  have bad : (tk b m A.o).1 ≠ 3 → MO T b m (f_X12_readAddresses_15 F 352 T) A (PQr b m A) := by
    intro q
    rw [if_neg q] at tq
    unfold f_X12_readAddresses_15
    rw [z_i352 h.1.1, qk_true]
    exact Or.inl (MFt_w (v_cant h.1.1 hA h0 m2 v (fun _ _ => tq)))
  unfold f_X12_readAddresses
  rw [z_i352 h.1.1, qk_true, qv_eq, v.2.1]
  by_cases ck : (tok b m (wsE b m A.o)).1 = 3
  · rw [if_pos ((zk3 v).mpr ck), v.2.2.2.2.2 F, qc_some']
    by_cases l : (tk b m A.o).1 = 6
    · rw [decide_eq_true l, if_neg (show ¬ bI true = 0 by decide)]
      exact bad (by omega)
    · obtain ⟨l1, -, l3, -, -, l6⟩ := v.2.2.1 l
      have k2 : (tk b m A.o).1 = 3 := by omega
      have ev := l6 (Or.inr k2)
      have vl := tf.2.2.2.2 k2
      rw [if_pos k2, if_pos (show (tk b m A.o).2.1 ≤ tp A.t by omega)] at tq
      obtain ⟨s1, s2, s3, s4⟩ := st_go hA h0 (by omega) l tq (by show 7 ≠ 0; decide)
      obtain ⟨A1, hA1⟩ : ∃ B : AS, B = (7, (tk b m A.o).2.2.2, A.n, A.t, (tk b m A.o).2.1, upR A.L (sRg A.c A.t (tk b m A.o).2.1 (tk b m A.o).2.1)) := ⟨_, rfl⟩
      rw [← hA1] at s1 s2 s3 s4
      have g1 := MD_wJ h.1 358 (nI (6 * (64 + A.L.n) + A.t)) (lN (tk b m A.o).2.1)
      have g2 := MD_wJ g1 359 (nI (6 * (64 + A.L.n) + A.t)) (lN (tk b m A.o).2.1)
      have e41 : gI (wJ (wJ T 358 (nI (6 * (64 + A.L.n) + A.t)) (lN (tk b m A.o).2.1)) 359 (nI (6 * (64 + A.L.n) + A.t)) (lN (tk b m A.o).2.1)) 904 352 = nI A1.o := by rw [gI_w, gI_w, s3]; exact l3 (by omega)
      have hl : ML4 (wJ (wJ T 358 (nI (6 * (64 + A.L.n) + A.t)) (lN (tk b m A.o).2.1)) 359 (nI (6 * (64 + A.L.n) + A.t)) (lN (tk b m A.o).2.1)) A1.L (5 ≤ A1.w) := by
        rw [hA1]
        exact ML4_rg h.2.2 (by omega) ht w1 _ _ _
      have fr : MF T (wJ (wJ T 358 (nI (6 * (64 + A.L.n) + A.t)) (lN (tk b m A.o).2.1)) 359 (nI (6 * (64 + A.L.n) + A.t)) (lN (tk b m A.o).2.1)) := MF_wJ (MF_wJ MF_refl (Or.inl rfl) (by omega) (by omega) _) (Or.inr rfl) (by omega) (by omega) _
      obtain ⟨T3, n1, n2, n3⟩ := v_adv (F := F) (A := A1) hF g2 e41 s1.1 hl
      have v3 := MA_v n3 s1
      rw [decide_eq_false l, if_pos (show bI false = 0 from rfl), z_i352 h.1.1, qk_true, z_p909_352 h.1.1, qP_some', qv_eq, ev, z_i358 h.1.1, qk_true, z_l358 h.1.1, inb_n hx (by omega), qk_true, qv_eq, z_p910_352 g1.1, qP_some', qv_eq, gJ_w, ev, z_i359 g1.1, qk_true, z_l359 g1.1, inb_n hx (by omega), qk_true, qv_eq, n1, qc_some', z_i352 n3.1.1, qk_true, v_sg45 n3.1.1 v3, qc_some']
      have hw1 : A1.w = 7 := by rw [hA1]
      have et1 : A1.t = A.t := by rw [hA1]
      have tq2 := tak_7 (k := (tk b m A1.o).1) (v := (tk b m A1.o).2.1) (w := wk b (tk b m A1.o)) (e := (tk b m A1.o).2.2.2) hw1
      have f3 := MF_trans fr n2
      have el1 : A1.c.lo A.t = A1.f := by
        rw [hA1]
        show ((upR A.L (sRg A.c A.t (tk b m A.o).2.1 (tk b m A.o).2.1)).r A.L.n).lo A.t = (tk b m A.o).2.1
        rw [up_eq]
        exact if_pos rfl
      have en1 : A1.L.n = A.L.n := by rw [hA1]; rfl
      have es1 : A1.n = A.n := by rw [hA1]
      by_cases c45 : (tk b m A1.o).1 = 4 ∧ (tk b m A1.o).2.1 = 45
      · rw [if_pos c45] at tq2
        unfold go at tq2
        obtain ⟨p1, p2, p3, p4⟩ := st_go s1 (by omega) (by omega) (by omega) tq2 (by show 8 ≠ 0; decide)
        obtain ⟨A2, hA2⟩ : ∃ B : AS, B = (8, (tk b m A1.o).2.2.2, A1.n, A1.t, A1.f, A1.L) := ⟨_, rfl⟩
        rw [← hA2] at p1 p2 p3 p4
        have h42 : gI T3 904 352 = nI A2.o := by rw [p3]; exact (v3.2.2.1 (by omega)).2.2.1 (by omega)
        have hl2 : ML4 T3 A2.L (5 ≤ A2.w) := by
          rw [hA2]
          exact ML4_c n3.2.2 (fun _ => by omega) ⟨rfl, rfl, rfl, rfl, rfl, rfl⟩
        obtain ⟨T4, q1, q2, q3⟩ := v_adv (F := F) (A := A2) hF n3.1 h42 p1.1 hl2
        rw [decide_eq_true c45, if_neg (show ¬ bI true = 0 by decide), z_i352 n3.1.1, qk_true, q1, qc_some']
        have et : A2.t = A.t := by rw [hA2]; exact et1
        have en : A2.L.n = A.L.n := by rw [hA2]; exact en1
        have r8 := v_addr8 (F := F) hF q3 p1 (by rw [hA2]) (by rw [et, hA2]; exact el1) (by rw [et]; exact y23)
        rw [et, en] at r8
        refine MO_s (MF_trans f3 q2) (s4.trans p4) r8 (fun B pb => ?_)
        obtain ⟨b1, b2, b3, b4⟩ := pb
        exact ⟨b1, by rw [b2]; exact en, by rw [b3, hA2]; exact es1, by omega⟩
      · rw [decide_eq_false c45, if_pos (show bI false = 0 from rfl), z_i352 n3.1.1, qk_true, v_sg47 n3.1.1 v3, qc_some']
        rw [if_neg c45] at tq2
        by_cases c47 : (tk b m A1.o).1 = 4 ∧ (tk b m A1.o).2.1 = 47
        · rw [if_pos (show (tk b m A1.o).1 = 4 ∧ (tk b m A1.o).2.1 = 47 ∧ (A1.t = 2 ∨ A1.t = 3) from ⟨c47.1, c47.2, by rw [et1]; exact y23⟩)] at tq2
          unfold go at tq2
          obtain ⟨p1, p2, p3, p4⟩ := st_go s1 (by omega) (by omega) (by omega) tq2 (by show 9 ≠ 0; decide)
          obtain ⟨A2, hA2⟩ : ∃ B : AS, B = (9, (tk b m A1.o).2.2.2, A1.n, A1.t, A1.f, A1.L) := ⟨_, rfl⟩
          rw [← hA2] at p1 p2 p3 p4
          have h42 : gI T3 904 352 = nI A2.o := by rw [p3]; exact (v3.2.2.1 (by omega)).2.2.1 (by omega)
          have hl2 : ML4 T3 A2.L (5 ≤ A2.w) := by
            rw [hA2]
            exact ML4_c n3.2.2 (fun _ => by omega) ⟨rfl, rfl, rfl, rfl, rfl, rfl⟩
          obtain ⟨T4, q1, q2, q3⟩ := v_adv (F := F) (A := A2) hF n3.1 h42 p1.1 hl2
          rw [decide_eq_true c47, if_neg (show ¬ bI true = 0 by decide), z_i352 n3.1.1, qk_true, q1, qc_some']
          have et : A2.t = A.t := by rw [hA2]; exact et1
          have en : A2.L.n = A.L.n := by rw [hA2]; exact en1
          have r8 := v_addr9 (F := F) hF q3 p1 (by rw [hA2]) (by rw [et, hA2]; exact el1) (by rw [et]; exact y23)
          rw [et, en] at r8
          refine MO_s (MF_trans f3 q2) (s4.trans p4) r8 (fun B pb => ?_)
          obtain ⟨b1, b2, b3, b4⟩ := pb
          exact ⟨b1, by rw [b2]; exact en, by rw [b3, hA2]; exact es1, by omega⟩
        · rw [decide_eq_false c47, if_pos (show bI false = 0 from rfl)]
          exact Or.inr ⟨T3, A1, f3, rfl, n3, s1, s4, Or.inr (Or.inl ⟨hw1, c45, fun q => c47 q.1⟩), en1, es1, s2⟩
  · rw [if_neg (fun q => ck ((zk3 v).mp q))]
    refine bad (fun q => ?_)
    have := v.2.2.1 (by omega)
    omega
end MAD
