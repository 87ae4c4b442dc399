/-! the model reads ranges -/
section MRG
variable {S T : gk_S} {F m : Nat} {b : Nat → Nat} {A A' : AS} {k v w e : Nat}
theorem gJ_w (T : gk_S) (a : Nat) (i : Int32) (x : Int64) (f c : Nat) : gJ (wJ T a i x) f c = gJ T f c := rfl
theorem gI_w (T : gk_S) (a : Nat) (i : Int32) (x : Int64) (f c : Nat) : gI (wJ T a i x) f c = gI T f c := rfl
/-- a range's end, which the model writes -/
theorem v_range8 (hF : 16400 ≤ F) {T4 : gk_S} {A2 : AS} (r : MA T4 b m A2) (hA2 : WA m A2) (hw2 : A2.w = 8) (el : A2.c.lo A2.t = A2.f) (n23 : ¬ (A2.t = 2 ∨ A2.t = 3)) : MO T4 b m (qk (isb T4 352 9) <| qv (gI T4 914 352) fun x83 => if x83 = (2 : Int32) then (qc (f_X12_isLate F T4 352) fun x96 S97 => if x96 = (0 : Int32) then (qk (isb S97 352 9) <| qv (gJ S97 917 352) fun x104 => qc (f_X12_most F S97 (nI A2.t)) fun x107 S108 => if x107 < x104 then (f_X12_readRange_216 F 352 S108) else qk (isb S108 352 9) <| qv (gJ S108 917 352) fun x123 => qP (gP S108 909 352) fun b126 => qk (isb S108 b126 12) <| qk (inb (nI (6 * (64 + A2.L.n) + A2.t)) (gL S108 b126)) <| qv (aJ S108 b126 (nI (6 * (64 + A2.L.n) + A2.t))) fun x133 => if x133 ≤ x123 then (qP (gP S108 910 352) fun b138 => qv (gJ S108 917 352) fun x141 => qk (isb S108 b138 12) <| qk (inb (nI (6 * (64 + A2.L.n) + A2.t)) (gL S108 b138)) <| qv (wJ S108 b138 (nI (6 * (64 + A2.L.n) + A2.t)) x141) fun S148 => qc (f_X12_next F S148 352) fun x151 S152 => some (1, S152)) else f_X12_readRange_216 F 352 S108) else f_X12_readRange_185 F 352 S97) else f_X12_readRange_185 F 352 T4) A2 (PQr b m A2) := by
  have m2 := r.1.2.2.1
  have h0 : A2.w ≠ 0 := by omega
  obtain ⟨w1, w2, w3, w4⟩ := hA2.2.2.2.2.2.1 (by omega)
  have ht := hA2.2.2.2.2.2.2.1 (by omega) (by omega)
  have hf := hA2.2.2.2.2.2.2.2.1 (by omega) (by omega)
  have v := MA_v r hA2
  have cc := r.2.2.2.2.2 (by omega : 5 ≤ A2.w)
  have tf := tk_TF b hA2.1
  have tl := tp_lt A2.t
  have tq := tak_8 (k := (tk b m A2.o).1) (v := (tk b m A2.o).2.1) (w := wk b (tk b m A2.o)) (e := (tk b m A2.o).2.2.2) hw2
  unfold tLast at tq
  rw [if_neg n23] at tq
  have bad : (tk b m A2.o).1 ≠ 2 → MO T4 b m (f_X12_readRange_185 F 352 T4) A2 (PQr b m A2) := by
    intro q
    rw [if_neg q] at tq
    unfold f_X12_readRange_185
    rw [z_i352 r.1.1, qk_true]
    exact Or.inl (MFt_w (v_cant r.1.1 hA2 h0 m2 v (fun _ _ => tq)))
  rw [z_i352 r.1.1, qk_true, qv_eq, v.2.1]
  by_cases ck : (tok b m (wsE b m A2.o)).1 = 2
  · rw [if_pos ((zk2 v).mpr ck), v.2.2.2.2.2 F, qc_some']
    by_cases l : (tk b m A2.o).1 = 6
    · rw [decide_eq_true l, if_neg (show ¬ bI true = 0 by decide)]
      exact bad (by omega)
    · obtain ⟨l1, -, l3, -, -, l6⟩ := v.2.2.1 l
      have k2 : (tk b m A2.o).1 = 2 := by omega
      have ev := l6 (Or.inl k2)
      have vl := tf.2.2.2.1 k2
      have z1 : lN (tp A2.t) < lN (tk b m A2.o).2.1 ↔ tp A2.t < (tk b m A2.o).2.1 := l_lt (by omega) (by omega)
      have z2 : lN A2.f ≤ lN (tk b m A2.o).2.1 ↔ A2.f ≤ (tk b m A2.o).2.1 := l_le (by omega) (by omega)
      have ea : aJ T4 358 (nI (6 * (64 + A2.L.n) + A2.t)) = lN A2.f := by unfold aJ; rw [nI_clamp (by omega), (cc.2.2 A2.t ht).1, el]
      have hx : 6 * (64 + A2.L.n) + A2.t < 576 := by omega
      rw [if_pos k2] at tq
      have wr : (tk b m A2.o).2.1 < A2.f ∨ tp A2.t < (tk b m A2.o).2.1 → MO T4 b m (f_X12_readRange_216 F 352 T4) A2 (PQr b m A2) := by
        intro q
        rw [if_pos q] at tq
        unfold f_X12_readRange_216
        rw [z_i352 r.1.1, qk_true]
        exact Or.inl (MFt_w (v_wrongF (κ := 3) r.1.1 hA2 h0 m2 v (by omega) (by omega) (by omega) l tq))
      rw [decide_eq_false l, if_pos (show bI false = 0 from rfl), z_i352 r.1.1, qk_true, qv_eq, ev, m_most ht, qc_some']
      by_cases q1 : tp A2.t < (tk b m A2.o).2.1
      · rw [if_pos (z1.mpr q1)]; exact wr (Or.inr q1)
      rw [if_neg (fun q => q1 (z1.mp q)), z_i352 r.1.1, qk_true, qv_eq, ev, z_p909_352 r.1.1, qP_some', z_i358 r.1.1, qk_true, z_l358 r.1.1, inb_n hx (by omega), qk_true, qv_eq, ea]
      by_cases q2 : A2.f ≤ (tk b m A2.o).2.1
      · rw [if_pos (z2.mpr q2), z_p910_352 r.1.1, qP_some', qv_eq, z_i359 r.1.1, qk_true, z_l359 r.1.1, inb_n hx (by omega), qk_true, qv_eq]
        rw [if_neg (by omega)] at tq
        obtain ⟨s1, s2, s3, s4⟩ := st_go hA2 h0 (by omega) l tq (by show 5 ≠ 0; decide)
        obtain ⟨A3, hA3⟩ : ∃ B : AS, B = (5, (tk b m A2.o).2.2.2, A2.n, A2.t, A2.f, upR A2.L (sRg A2.c A2.t A2.f (tk b m A2.o).2.1)) := ⟨_, rfl⟩
        rw [← hA3] at s1 s2 s3 s4
        have hl : ML4 (wJ T4 359 (nI (6 * (64 + A2.L.n) + A2.t)) (lN (tk b m A2.o).2.1)) A3.L (5 ≤ A3.w) := by
          rw [hA3]
          exact ML4_hi r.2.2 (by omega) ht w1 el _ _
        obtain ⟨T5, n1, n2, n3⟩ := v_adv (F := F) (A := A3) hF (MD_wJ r.1 359 (nI (6 * (64 + A2.L.n) + A2.t)) (lN (tk b m A2.o).2.1)) (by rw [gI_w, s3]; exact l3 (by omega)) s1.1 hl
        rw [n1, qc_some']
        exact Or.inr ⟨T5, A3, MF_trans (MF_wJ MF_refl (Or.inr rfl) (by omega) (by omega) _) n2, rfl, n3, s1, s4, Or.inl (by rw [hA3]), by rw [hA3]; rfl, by rw [hA3], s2⟩
      · rw [if_neg (fun q => q2 (z2.mp q))]; exact wr (Or.inl (by omega))
  · rw [if_neg (fun q => ck ((zk2 v).mp q))]
    refine bad (fun q => ?_)
    have := v.2.2.1 (by omega)
    omega
theorem v_range (hF : 16400 ≤ F) (h : MA T b m A) (hA : WA m A) (hw : A.w = 6) (n23 : ¬ (A.t = 2 ∨ A.t = 3)) : MO T b m (f_X12_readRange F T 352 (nI (6 * (64 + A.L.n) + A.t)) (nI A.t)) A (PQr b m A) := by
  have m2 := h.1.2.2.1
  have h0 : A.w ≠ 0 := by omega
  obtain ⟨w1, w2, w3, w4⟩ := hA.2.2.2.2.2.1 (by omega)
  have ht := hA.2.2.2.2.2.2.1 (by omega) (by omega)
  have v := MA_v h hA
  have tf := tk_TF b hA.1
  have tl := tp_lt A.t
  have hx : 6 * (64 + A.L.n) + A.t < 576 := by omega
  have tq := tak_6 (k := (tk b m A.o).1) (v := (tk b m A.o).2.1) (w := wk b (tk b m A.o)) (e := (tk b m A.o).2.2.2) hw
  unfold tVal at tq
  have num : ¬ (A.t = 1 ∧ 11 ≤ wk b (tk b m A.o) ∧ wk b (tk b m A.o) < 14) → MO T b m (f_X12_readRange_93 F 352 (nI (6 * (64 + A.L.n) + A.t)) (nI A.t) T) A (PQr b m A) := by
    intro nq
    rw [if_neg n23] at tq
    have bad : (tk b m A.o).1 ≠ 2 → MO T b m (f_X12_readRange_108 F 352 T) A (PQr b m A) := by
      intro q
      have tq2 : tak (tk b m A.o).1 (tk b m A.o).2.1 (wk b (tk b m A.o)) (tk b m A.o).2.2.2 A = .inl 2 := by
        rw [tq]
        by_cases c1 : A.t = 1 ∧ (tk b m A.o).1 = 1
        · rw [if_pos c1, if_neg (fun e => nq ⟨c1.1, e⟩)]
        · rw [if_neg c1, if_neg q]
      unfold f_X12_readRange_108
      rw [z_i352 h.1.1, qk_true]
      exact Or.inl (MFt_w (v_cant h.1.1 hA h0 m2 v (fun _ _ => tq2)))
    unfold f_X12_readRange_93
    rw [z_i352 h.1.1, qk_true, qv_eq, v.2.1]
    by_cases ck : (tok b m (wsE b m A.o)).1 = 2
    · rw [if_pos ((zk2 v).mpr ck), v.2.2.2.2.2 F, qc_some']
      by_cases l : (tk b m A.o).1 = 6
      · rw [decide_eq_true l, if_neg (show ¬ bI true = 0 by decide)]
        exact bad (by omega)
      · obtain ⟨l1, -, l3, -, -, l6⟩ := v.2.2.1 l
        have k2 : (tk b m A.o).1 = 2 := by omega
        have ev := l6 (Or.inl k2)
        have vl := tf.2.2.2.1 k2
        have zv : lN (tk b m A.o).2.1 ≤ lN (tp A.t) ↔ (tk b m A.o).2.1 ≤ tp A.t := l_le (by omega) (by omega)
        rw [if_neg (show ¬ (A.t = 1 ∧ (tk b m A.o).1 = 1) by omega), if_pos k2] at tq
        rw [decide_eq_false l, if_pos (show bI false = 0 from rfl), z_i352 h.1.1, qk_true, qv_eq, ev, m_most ht, qc_some']
        by_cases qv : (tk b m A.o).2.1 ≤ tp A.t
        · rw [if_pos qv] at tq
          obtain ⟨s1, s2, s3, s4⟩ := st_go hA h0 (by omega) l tq (by show 7 ≠ 0; decide)
          obtain ⟨A1, hA1⟩ : ∃ B : AS, B = (7, (tk b m A.o).2.2.2, A.n, A.t, (tk b m A.o).2.1, upR A.L (sRg A.c A.t (tk b m A.o).2.1 (tk b m A.o).2.1)) := ⟨_, rfl⟩
          rw [← hA1] at s1 s2 s3 s4
          have g1 := MD_wJ h.1 358 (nI (6 * (64 + A.L.n) + A.t)) (lN (tk b m A.o).2.1)
          have g2 := MD_wJ g1 359 (nI (6 * (64 + A.L.n) + A.t)) (lN (tk b m A.o).2.1)
          have e41 : gI (wJ (wJ T 358 (nI (6 * (64 + A.L.n) + A.t)) (lN (tk b m A.o).2.1)) 359 (nI (6 * (64 + A.L.n) + A.t)) (lN (tk b m A.o).2.1)) 904 352 = nI A1.o := by rw [gI_w, gI_w, s3]; exact l3 (by omega)
          have hl : ML4 (wJ (wJ T 358 (nI (6 * (64 + A.L.n) + A.t)) (lN (tk b m A.o).2.1)) 359 (nI (6 * (64 + A.L.n) + A.t)) (lN (tk b m A.o).2.1)) A1.L (5 ≤ A1.w) := by
            rw [hA1]
            exact ML4_rg h.2.2 (by omega) ht w1 _ _ _
          have fr : MF T (wJ (wJ T 358 (nI (6 * (64 + A.L.n) + A.t)) (lN (tk b m A.o).2.1)) 359 (nI (6 * (64 + A.L.n) + A.t)) (lN (tk b m A.o).2.1)) := MF_wJ (MF_wJ MF_refl (Or.inl rfl) (by omega) (by omega) _) (Or.inr rfl) (by omega) (by omega) _
          rw [if_pos (zv.mpr qv), z_i352 h.1.1, qk_true, z_p909_352 h.1.1, qP_some', qv_eq, ev, z_i358 h.1.1, qk_true, z_l358 h.1.1, inb_n hx (by omega), qk_true, qv_eq, z_p910_352 g1.1, qP_some', qv_eq, gJ_w, ev, z_i359 g1.1, qk_true, z_l359 g1.1, inb_n hx (by omega), qk_true, qv_eq]
          obtain ⟨T3, n1, n2, n3⟩ := v_adv (F := F) (A := A1) hF g2 e41 s1.1 hl
          have v3 := MA_v n3 s1
          rw [n1, qc_some', z_i352 n3.1.1, qk_true, v_sg45 n3.1.1 v3, qc_some']
          have hw1 : A1.w = 7 := by rw [hA1]
          have tq2 := tak_7 (k := (tk b m A1.o).1) (v := (tk b m A1.o).2.1) (w := wk b (tk b m A1.o)) (e := (tk b m A1.o).2.2.2) hw1
          have f3 := MF_trans fr n2
          by_cases c45 : (tk b m A1.o).1 = 4 ∧ (tk b m A1.o).2.1 = 45
          · rw [if_pos c45] at tq2
            unfold go at tq2
            obtain ⟨p1, p2, p3, p4⟩ := st_go s1 (by omega) (by omega) (by omega) tq2 (by show 8 ≠ 0; decide)
            obtain ⟨A2, hA2⟩ : ∃ B : AS, B = (8, (tk b m A1.o).2.2.2, A1.n, A1.t, A1.f, A1.L) := ⟨_, rfl⟩
            rw [← hA2] at p1 p2 p3 p4
            have h42 : gI T3 904 352 = nI A2.o := by rw [p3]; exact (v3.2.2.1 (by omega)).2.2.1 (by omega)
            have hl2 : ML4 T3 A2.L (5 ≤ A2.w) := by
              rw [hA2]
              exact ML4_c n3.2.2 (fun _ => by omega) ⟨rfl, rfl, rfl, rfl, rfl, rfl⟩
            obtain ⟨T4, q1, q2, q3⟩ := v_adv (F := F) (A := A2) hF n3.1 h42 p1.1 hl2
            rw [decide_eq_true c45, if_neg (show ¬ bI true = 0 by decide), z_i352 n3.1.1, qk_true, q1, qc_some']
            have et : A2.t = A.t := by rw [hA2, hA1]
            have en : A2.L.n = A.L.n := by rw [hA2, hA1]; rfl
            have el : A2.c.lo A2.t = A2.f := by
              rw [hA2, hA1]
              show ((upR A.L (sRg A.c A.t (tk b m A.o).2.1 (tk b m A.o).2.1)).r A.L.n).lo A.t = (tk b m A.o).2.1
              rw [up_eq]
              exact if_pos rfl
            have r8 := v_range8 (F := F) hF q3 p1 (by rw [hA2]) el (by rw [et]; exact n23)
            rw [et, en] at r8
            refine MO_s (MF_trans f3 q2) (s4.trans p4) r8 (fun B pb => ?_)
            obtain ⟨b1, b2, b3, b4⟩ := pb
            exact ⟨b1, by rw [b2]; exact en, by rw [b3, hA2, hA1], by omega⟩
          · rw [decide_eq_false c45, if_pos (show bI false = 0 from rfl)]
            exact Or.inr ⟨T3, A1, f3, rfl, n3, s1, s4, Or.inr (Or.inl ⟨hw1, c45, fun q => n23 (by have := q.2; rw [hA1] at this; exact this)⟩), by rw [hA1]; rfl, by rw [hA1], s2⟩
        · rw [if_neg (fun q => qv (zv.mp q)), z_i352 h.1.1, qk_true]
          rw [if_neg qv] at tq
          exact Or.inl (MFt_w (v_wrongF (κ := 3) h.1.1 hA h0 m2 v (by omega) (by omega) (by omega) l tq))
    · rw [if_neg (fun q => ck ((zk2 v).mp q))]
      refine bad (fun q => ?_)
      have := v.2.2.1 (by omega)
      omega
  have z1 : nI A.t = 1 ↔ A.t = 1 := nI_eq (b := 1) (by omega) (by omega)
  unfold f_X12_readRange
  by_cases c1 : A.t = 1
  · rw [if_pos (z1.mpr c1), z_i352 h.1.1, qk_true, qv_eq, v.2.1]
    by_cases acc : 11 ≤ wk b (tk b m A.o) ∧ wk b (tk b m A.o) < 14
    · obtain ⟨v1, v2, v3⟩ := v_wv v rfl (by omega)
      have l : ¬ (tk b m A.o).1 = 6 := by omega
      have e4 := (v.2.2.1 l).2.2.1 (by omega)
      rw [if_pos ⟨c1, v3⟩, if_pos acc] at tq
      obtain ⟨s1, s2, s3, s4⟩ := st_go hA h0 (by omega) l tq (by show 5 ≠ 0; decide)
      obtain ⟨A1, hA1⟩ : ∃ B : AS, B = (5, (tk b m A.o).2.2.2, A.n, A.t, A.f, upR A.L (sRg A.c 1 (pn (wk b (tk b m A.o))) (pn (wk b (tk b m A.o))))) := ⟨_, rfl⟩
      rw [← hA1] at s1 s2 s3 s4
      have z11 : ¬ nI (wk b (tk b m A.o)) < 11 := nI_nlt (b := 11) acc.1 (by omega)
      have z14 : ¬ (14 : Int32) ≤ nI (wk b (tk b m A.o)) := nI_ge (b := 14) acc.2 (by omega)
      have y1 : nI (wk b (tk b m A.o)) = 11 ↔ wk b (tk b m A.o) = 11 := nI_eq (b := 11) (by omega) (by omega)
      have y2 : nI (wk b (tk b m A.o)) = 12 ↔ wk b (tk b m A.o) = 12 := nI_eq (b := 12) (by omega) (by omega)
      have fin : ∀ x : Nat, pn (wk b (tk b m A.o)) = x → MO T b m (f_X12_readRange_74 F 352 (nI (6 * (64 + A.L.n) + A.t)) (lN x) (nI (6 * (64 + A.L.n) + A.t)) 358 T) A (PQr b m A) := by
        intro x ex
        have g1 := MD_wJ h.1 358 (nI (6 * (64 + A.L.n) + A.t)) (lN x)
        have g2 := MD_wJ g1 359 (nI (6 * (64 + A.L.n) + A.t)) (lN x)
        have ea : aJ (wJ T 358 (nI (6 * (64 + A.L.n) + A.t)) (lN x)) 358 (nI (6 * (64 + A.L.n) + A.t)) = lN x := by unfold aJ; rw [nI_clamp (by omega), rw_eq _ _ (by omega), if_pos rfl]
        have e41 : gI (wJ (wJ T 358 (nI (6 * (64 + A.L.n) + A.t)) (lN x)) 359 (nI (6 * (64 + A.L.n) + A.t)) (lN x)) 904 352 = nI A1.o := by rw [gI_w, gI_w, s3]; exact e4
        have hl : ML4 (wJ (wJ T 358 (nI (6 * (64 + A.L.n) + A.t)) (lN x)) 359 (nI (6 * (64 + A.L.n) + A.t)) (lN x)) A1.L (5 ≤ A1.w) := by
          have k := ML4_rg h.2.2 (by omega) ht w1 x x (5 ≤ 5)
          rw [hA1, ex, c1]
          rw [c1] at k
          exact k
        have fr : MF T (wJ (wJ T 358 (nI (6 * (64 + A.L.n) + A.t)) (lN x)) 359 (nI (6 * (64 + A.L.n) + A.t)) (lN x)) := MF_wJ (MF_wJ MF_refl (Or.inl rfl) (by omega) (by omega) _) (Or.inr rfl) (by omega) (by omega) _
        obtain ⟨T3, n1, n2, n3⟩ := v_adv (F := F) (A := A1) hF g2 e41 s1.1 hl
        unfold f_X12_readRange_74
        rw [z_i358 h.1.1, qk_true, z_l358 h.1.1, inb_n hx (by omega), qk_true, qv_eq, z_i352 g1.1, qk_true, z_p910_352 g1.1, qP_some', z_p909_352 g1.1, qP_some', z_i358 g1.1, qk_true, z_l358 g1.1, inb_n hx (by omega), qk_true, qv_eq, ea, z_i359 g1.1, qk_true, z_l359 g1.1, inb_n hx (by omega), qk_true, qv_eq, n1, qc_some']
        exact Or.inr ⟨T3, A1, MF_trans fr n2, rfl, n3, s1, s4, Or.inl (by rw [hA1]), by rw [hA1]; rfl, by rw [hA1], s2⟩
      rw [if_pos ((zk1 v).mpr v2), qv_eq, v1, if_neg z11, qv_eq, if_neg z14, v.2.2.2.2.2 F, qc_some', decide_eq_false l, if_pos (show bI false = 0 from rfl), z_i352 h.1.1, qk_true, z_p909_352 h.1.1, qP_some', qv_eq, v1]
      by_cases x1 : wk b (tk b m A.o) = 11
      · rw [if_pos (y1.mpr x1)]; exact fin 6 (by rw [x1]; rfl)
      rw [if_neg (fun q => x1 (y1.mp q)), qv_eq]
      by_cases x2 : wk b (tk b m A.o) = 12
      · rw [if_pos (y2.mpr x2)]; exact fin 17 (by rw [x2]; rfl)
      rw [if_neg (fun q => x2 (y2.mp q))]
      exact fin 1 (by rw [show wk b (tk b m A.o) = 13 by omega]; rfl)
    · have n := num (fun q => acc q.2)
      rcases MV_w v with ⟨c, w, x1, x2, x3, x4⟩ | ⟨c, x1⟩
      · have z11 : wval w 18 < 11 ↔ w < 11 ∨ w = 18 := wv_lt (c := 11) x1 (by omega)
        have z14 : (14 : Int32) ≤ wval w 18 ↔ ¬ (w < 14 ∨ w = 18) := by
          rw [← Int32.not_lt]
          exact not_congr (wv_lt (c := 14) x1 (by omega))
        rw [if_pos ((zk1 v).mpr c), qv_eq, x2]
        by_cases q1 : w < 11 ∨ w = 18
        · rw [if_pos (z11.mpr q1)]; exact n
        rw [if_neg (fun q => q1 (z11.mp q)), qv_eq]
        by_cases q2 : w < 14 ∨ w = 18
        · have l : (tk b m A.o).1 = 6 := by
            rcases Nat.decEq (tk b m A.o).1 6 with l | l
            · have := x3 l; omega
            · exact l
          rw [if_neg (fun q => z14.mp q q2), v.2.2.2.2.2 F, qc_some', decide_eq_true l, if_neg (show ¬ bI true = 0 by decide)]
          exact n
        · rw [if_pos (z14.mpr q2)]; exact n
      · rw [if_neg (fun q => c ((zk1 v).mp q))]; exact n
  · rw [if_neg (fun q => c1 (z1.mp q))]
    exact num (fun q => c1 q.1)
end MRG
