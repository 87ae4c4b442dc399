theorem dL_datagram_0 : decode cL_datagram 0 = .ok (.aload_n 2, 1) := by decide +kernel
theorem dL_datagram_1 : decode cL_datagram 1 = .ok (.iconst 0, 1) := by decide +kernel
theorem dL_datagram_2 : decode cL_datagram 2 = .ok (.aload_n 0, 1) := by decide +kernel
theorem dL_datagram_3 : decode cL_datagram 3 = .ok (.iload_n 1, 1) := by decide +kernel
theorem dL_datagram_4 : decode cL_datagram 4 = .ok (.invokevirtual 54, 3) := by decide +kernel
theorem dL_datagram_7 : decode cL_datagram 7 = .ok (.i2l, 1) := by decide +kernel
theorem dL_datagram_8 : decode cL_datagram 8 = .ok (.lastore, 1) := by decide +kernel
theorem dL_datagram_9 : decode cL_datagram 9 = .ok (.goto 6, 3) := by decide +kernel
theorem dL_datagram_12 : decode cL_datagram 12 = .ok (.astore_n 3, 1) := by decide +kernel
theorem dL_datagram_13 : decode cL_datagram 13 = .ok (.iconst 1, 1) := by decide +kernel
theorem dL_datagram_14 : decode cL_datagram 14 = .ok (.ireturn, 1) := by decide +kernel
theorem dL_datagram_15 : decode cL_datagram 15 = .ok (.iconst 0, 1) := by decide +kernel
theorem dL_datagram_16 : decode cL_datagram 16 = .ok (.ireturn, 1) := by decide +kernel
def f_L_datagram (F : Nat) (S : gk_S) (p0 : Nat) (p1 : Int32) (p2 : Nat) : Option (Int32 × gk_S) := qk (isb S p0 8) <| qh (f_X11_datagram F S p0 p1) (fun x3 S4 => qk (isb S4 p2 12) <| qk (inb 0 (gL S4 p2)) <| qv (wJ S4 p2 0 ((x3 : Int32).toInt64)) fun S14 => some (0, S14)) (fun E7 T8 => if E7 = gx_A then (some (1, T8)) else none)
theorem e_L_datagram {X : gk_X} {F : Nat} {k j : Nat} {S : gk_S} {p0 : Nat} {p1 : Int32} {p2 : Nat} {r : (Int32 × gk_S)} (hb : r.1 = 0 ∨ (1 ≤ k ∧ 6 ≤ j)) (h0 : f_L_datagram F S p0 p1 p2 = some r) : EvM X m_L_datagram 8 k j [.ref p0, .int p1, .ref p2] S (qRI r) := by
  unfold f_L_datagram at h0
  refine ev_methodH (by decide +kernel) (by decide) rfl (Nat.le_of_ble_eq_true rfl) ?_
  show EvW X m_L_datagram 8 k j 0 [some (.ref p0), some (.int p1), some (.ref p2), none] [] S _
  refine ev_aload_n (pc := 0) (i := 2) rfl rfl rfl dL_datagram_0 ?_
  refine ev_iconst (pc := 1) (v := 0) (by decide) dL_datagram_1 ?_
  refine ev_aload_n (pc := 2) (i := 0) rfl rfl rfl dL_datagram_2 ?_
  refine ev_iload_n (pc := 3) (i := 1) rfl rfl dL_datagram_3 ?_
  obtain ⟨g1, h2⟩ := qk_el h0; clear h0
  rcases qh_el h2 with ⟨E7, T8, e5, h6⟩ | ⟨x3, S4, e5, h6⟩
  · by_cases c9 : E7 = gx_A
    · replace h6 := qi_t h6 c9; subst c9
      have hb9 : 1 ≤ k ∧ 6 ≤ j := by cases h6; exact hb.resolve_left (by decide)
      refine yv_catV (pc := 4) (st := [.int 0, .ref p2]) (as := [.int p1]) (i9 := 3) (len9 := 1) (pre := []) (suf := []) (x := (0, 9, 12, 34)) (name := "java/lang/IllegalArgumentException") ok_X11_datagram (e_X11_datagram (k := k) (j := j) (fun _ _ => hb9) e5) (isb_el g1) rfl (by intro z hz; cases hz) (by decide) (by decide) (by decide) gw_768 (by decide +kernel) (.inr ⟨3, rfl, rfl, rfl⟩) (by decide) rfl (gl9 rfl) (by decide) rfl (Nat.le_of_ble_eq_true rfl) rfl gw_1015 dL_datagram_4 dL_datagram_12 ?_
      refine ev_iconst (pc := 13) (v := 1) (by decide) dL_datagram_13 ?_
      exact ev_ireturn (pc := 14) rfl rfl (by cases h6; rfl) dL_datagram_14
    replace h6 := qi_f h6 c9
    cases h6
  clear h2
  refine xv_callV (pc := 4) (st := [.int 0, .ref p2]) (as := [.int p1]) (v := (some (.int x3))) (S' := S4) ok_X11_datagram (e_X11_datagram (k := 0) (j := 0) qb_inl e5) (isb_el g1) (by decide) rfl (Nat.le_of_ble_eq_true rfl) rfl gw_1015 dL_datagram_4 ?_
  refine ev_i2l (pc := 7)  dL_datagram_7 ?_
  obtain ⟨g10, h11⟩ := qk_el h6; clear h6
  obtain ⟨g12, h13⟩ := qk_el h11; clear h11
  obtain ⟨S14, e15, h16⟩ := qv_el h13; clear h13
  refine yv_last (pc := 8) (isb_el g10) (inb_el g12) e15 dL_datagram_8 ?_
  refine ev_goto (pc := 9) (tgt := 15) (by decide) dL_datagram_9 ?_
  refine ev_iconst (pc := 15) (v := 0) (by decide) dL_datagram_15 ?_
  exact ev_ireturn (pc := 16) rfl rfl (by cases h16; rfl) dL_datagram_16
theorem dX11_found_0 : decode cX11_found 0 = .ok (.aload_n 0, 1) := by decide +kernel
theorem dX11_found_1 : decode cX11_found 1 = .ok (.getfield 72, 3) := by decide +kernel
theorem dX11_found_4 : decode cX11_found 4 = .ok (.ifCond .eq 13, 3) := by decide +kernel
theorem dX11_found_7 : decode cX11_found 7 = .ok (.iload_n 1, 1) := by decide +kernel
theorem dX11_found_8 : decode cX11_found 8 = .ok (.ifCond .lt 9, 3) := by decide +kernel
theorem dX11_found_11 : decode cX11_found 11 = .ok (.iload_n 1, 1) := by decide +kernel
theorem dX11_found_12 : decode cX11_found 12 = .ok (.bipush 7, 2) := by decide +kernel
theorem dX11_found_14 : decode cX11_found 14 = .ok (.if_icmp .lt 13, 3) := by decide +kernel
theorem dX11_found_17 : decode cX11_found 17 = .ok (.new 112, 3) := by decide +kernel
theorem dX11_found_20 : decode cX11_found 20 = .ok (.dup, 1) := by decide +kernel
theorem dX11_found_21 : decode cX11_found 21 = .ok (.ldc 167, 2) := by decide +kernel
theorem dX11_found_23 : decode cX11_found 23 = .ok (.invokespecial 116, 3) := by decide +kernel
theorem dX11_found_26 : decode cX11_found 26 = .ok (.athrow, 1) := by decide +kernel
theorem dX11_found_27 : decode cX11_found 27 = .ok (.aload_n 0, 1) := by decide +kernel
theorem dX11_found_28 : decode cX11_found 28 = .ok (.getfield 68, 3) := by decide +kernel
theorem dX11_found_31 : decode cX11_found 31 = .ok (.iload_n 1, 1) := by decide +kernel
theorem dX11_found_32 : decode cX11_found 32 = .ok (.laload, 1) := by decide +kernel
theorem dX11_found_33 : decode cX11_found 33 = .ok (.l2i, 1) := by decide +kernel
theorem dX11_found_34 : decode cX11_found 34 = .ok (.ireturn, 1) := by decide +kernel
def f_X11_found_17 (F : Nat)  (S : gk_S) : Option ((Int32 ⊕ String) × gk_S) := some (.inr gx_E, cS S)
theorem e_X11_found_17 {X : gk_X} {F : Nat} {k j : Nat}  {S : gk_S} {r : ((Int32 ⊕ String) × gk_S)} (hb : qb r k j) (h0 : f_X11_found_17 F  S = some r) : EvW X m_X11_found 6 k j 17 [none, none] [] S (qXI r) := by
  unfold f_X11_found_17 at h0
  cases h0
  exact ev_throwN (pc := 17) (i := 27) (by decide) rfl rfl rfl rfl gw_680 gw_19 rfl (by decide) (by decide) (qb_inr hb).1 (qb_inr hb).2 rfl dX11_found_17 dX11_found_20 dX11_found_21 dX11_found_23 dX11_found_26
def f_X11_found (F : Nat) (S : gk_S) (a : Nat) (p0 : Int32) : Option ((Int32 ⊕ String) × gk_S) := qk (isb S a 8) <| qv (gI S 811 a) fun x3 => if x3 = (0 : Int32) then (f_X11_found_17 F S) else if p0 < (0 : Int32) then (f_X11_found_17 F S) else if p0 < (7 : Int32) then (qP (gP S 809 a) fun b12 => qk (isb S b12 12) <| qk (inb p0 (gL S b12)) <| qv (aJ S b12 p0) fun x19 => some (.inl ((x19 : Int64).toInt32), S)) else f_X11_found_17 F S
theorem e_X11_found {X : gk_X} {F : Nat} {k j : Nat} {S : gk_S} {a : Nat} {p0 : Int32} {r : ((Int32 ⊕ String) × gk_S)} (hb : qb r k j) (h0 : f_X11_found F S a p0 = some r) : EvM X m_X11_found 6 k j [.ref a, .int p0] S (qXI r) := by
  unfold f_X11_found at h0
  refine ev_method (by decide +kernel) rfl rfl (Nat.le_of_ble_eq_true rfl) ?_
  show EvW X m_X11_found 6 k j 0 [some (.ref a), some (.int p0)] [] S _
  refine ev_aload_n (pc := 0) (i := 0) rfl rfl rfl dX11_found_0 ?_
  obtain ⟨g1, h2⟩ := qk_el h0; clear h0
  obtain ⟨x3, e4, h5⟩ := qv_el h2; clear h2
  refine xv_getIv (pc := 1) fn_811 (isb_el g1) e4 gw_293 dX11_found_1 ?_
  refine ev_if_eq (pc := 4) (tgt := 17) (by decide) dX11_found_4 (fun c6 => ?_) (fun c6 => ?_)
  · replace h5 := qi_t h5 c6
    exact ev_weak (qL_n (qL_n qL_nil)) (e_X11_found_17 hb h5)
  · replace h5 := qi_f h5 c6
    refine ev_iload_n (pc := 7) (i := 1) rfl rfl dX11_found_7 ?_
    refine ev_if_lt (pc := 8) (tgt := 17) (by decide) dX11_found_8 (fun c8 => ?_) (fun c8 => ?_)
    · replace h5 := qi_t h5 c8
      exact ev_weak (qL_n (qL_n qL_nil)) (e_X11_found_17 hb h5)
    · replace h5 := qi_f h5 c8
      refine ev_iload_n (pc := 11) (i := 1) rfl rfl dX11_found_11 ?_
      refine ev_bipush (pc := 12) (v := 7) (by decide) dX11_found_12 ?_
      refine ev_ic_lt (pc := 14) (tgt := 27) (by decide) dX11_found_14 (fun c10 => ?_) (fun c10 => ?_)
      · replace h5 := qi_t h5 c10
        refine ev_aload_n (pc := 27) (i := 0) rfl rfl rfl dX11_found_27 ?_
        obtain ⟨b12, e13, h14⟩ := qP_el h5; clear h5
        refine xv_getP (pc := 28) fn_809 (isb_el g1) e13 gw_291 dX11_found_28 ?_
        refine ev_iload_n (pc := 31) (i := 1) rfl rfl dX11_found_31 ?_
        obtain ⟨g15, h16⟩ := qk_el h14; clear h14
        obtain ⟨g17, h18⟩ := qk_el h16; clear h16
        obtain ⟨x19, e20, h21⟩ := qv_el h18; clear h18
        refine yv_lald (pc := 32) (isb_el g15) (inb_el g17) e20 dX11_found_32 ?_
        refine ev_l2i (pc := 33)  dX11_found_33 ?_
        cases h21
        exact ev_ireturn (pc := 34) rfl rfl rfl dX11_found_34
      · replace h5 := qi_f h5 c10
        exact ev_weak (qL_n (qL_n qL_nil)) (e_X11_found_17 hb h5)
theorem dL_found_0 : decode cL_found 0 = .ok (.aload_n 2, 1) := by decide +kernel
theorem dL_found_1 : decode cL_found 1 = .ok (.iconst 0, 1) := by decide +kernel
theorem dL_found_2 : decode cL_found 2 = .ok (.aload_n 0, 1) := by decide +kernel
theorem dL_found_3 : decode cL_found 3 = .ok (.iload_n 1, 1) := by decide +kernel
theorem dL_found_4 : decode cL_found 4 = .ok (.invokevirtual 43, 3) := by decide +kernel
theorem dL_found_7 : decode cL_found 7 = .ok (.i2l, 1) := by decide +kernel
theorem dL_found_8 : decode cL_found 8 = .ok (.lastore, 1) := by decide +kernel
theorem dL_found_9 : decode cL_found 9 = .ok (.goto 6, 3) := by decide +kernel
theorem dL_found_12 : decode cL_found 12 = .ok (.astore_n 3, 1) := by decide +kernel
theorem dL_found_13 : decode cL_found 13 = .ok (.iconst 1, 1) := by decide +kernel
theorem dL_found_14 : decode cL_found 14 = .ok (.ireturn, 1) := by decide +kernel
theorem dL_found_15 : decode cL_found 15 = .ok (.iconst 0, 1) := by decide +kernel
theorem dL_found_16 : decode cL_found 16 = .ok (.ireturn, 1) := by decide +kernel
def f_L_found (F : Nat) (S : gk_S) (p0 : Nat) (p1 : Int32) (p2 : Nat) : Option (Int32 × gk_S) := qk (isb S p0 8) <| qh (f_X11_found F S p0 p1) (fun x3 S4 => qk (isb S4 p2 12) <| qk (inb 0 (gL S4 p2)) <| qv (wJ S4 p2 0 ((x3 : Int32).toInt64)) fun S14 => some (0, S14)) (fun E7 T8 => if E7 = gx_E then (some (1, T8)) else none)
theorem e_L_found {X : gk_X} {F : Nat} {k j : Nat} {S : gk_S} {p0 : Nat} {p1 : Int32} {p2 : Nat} {r : (Int32 × gk_S)} (hb : r.1 = 0 ∨ (1 ≤ k ∧ 6 ≤ j)) (h0 : f_L_found F S p0 p1 p2 = some r) : EvM X m_L_found 7 k j [.ref p0, .int p1, .ref p2] S (qRI r) := by
  unfold f_L_found at h0
  refine ev_methodH (by decide +kernel) (by decide) rfl (Nat.le_of_ble_eq_true rfl) ?_
  show EvW X m_L_found 7 k j 0 [some (.ref p0), some (.int p1), some (.ref p2), none] [] S _
  refine ev_aload_n (pc := 0) (i := 2) rfl rfl rfl dL_found_0 ?_
  refine ev_iconst (pc := 1) (v := 0) (by decide) dL_found_1 ?_
  refine ev_aload_n (pc := 2) (i := 0) rfl rfl rfl dL_found_2 ?_
  refine ev_iload_n (pc := 3) (i := 1) rfl rfl dL_found_3 ?_
  obtain ⟨g1, h2⟩ := qk_el h0; clear h0
  rcases qh_el h2 with ⟨E7, T8, e5, h6⟩ | ⟨x3, S4, e5, h6⟩
  · by_cases c9 : E7 = gx_E
    · replace h6 := qi_t h6 c9; subst c9
      have hb9 : 1 ≤ k ∧ 6 ≤ j := by cases h6; exact hb.resolve_left (by decide)
      refine yv_catV (pc := 4) (st := [.int 0, .ref p2]) (as := [.int p1]) (i9 := 3) (len9 := 1) (pre := []) (suf := []) (x := (0, 9, 12, 22)) (name := "java/util/NoSuchElementException") ok_X11_found (e_X11_found (k := k) (j := j) (fun _ _ => hb9) e5) (isb_el g1) rfl (by intro z hz; cases hz) (by decide) (by decide) (by decide) gw_672 (by decide +kernel) (.inr ⟨3, rfl, rfl, rfl⟩) (by decide) rfl (gl9 rfl) (by decide) rfl (Nat.le_of_ble_eq_true rfl) rfl gw_902 dL_found_4 dL_found_12 ?_
      refine ev_iconst (pc := 13) (v := 1) (by decide) dL_found_13 ?_
      exact ev_ireturn (pc := 14) rfl rfl (by cases h6; rfl) dL_found_14
    replace h6 := qi_f h6 c9
    cases h6
  clear h2
  refine xv_callV (pc := 4) (st := [.int 0, .ref p2]) (as := [.int p1]) (v := (some (.int x3))) (S' := S4) ok_X11_found (e_X11_found (k := 0) (j := 0) qb_inl e5) (isb_el g1) (by decide) rfl (Nat.le_of_ble_eq_true rfl) rfl gw_902 dL_found_4 ?_
  refine ev_i2l (pc := 7)  dL_found_7 ?_
  obtain ⟨g10, h11⟩ := qk_el h6; clear h6
  obtain ⟨g12, h13⟩ := qk_el h11; clear h11
  obtain ⟨S14, e15, h16⟩ := qv_el h13; clear h13
  refine yv_last (pc := 8) (isb_el g10) (inb_el g12) e15 dL_found_8 ?_
  refine ev_goto (pc := 9) (tgt := 15) (by decide) dL_found_9 ?_
  refine ev_iconst (pc := 15) (v := 0) (by decide) dL_found_15 ?_
  exact ev_ireturn (pc := 16) rfl rfl (by cases h16; rfl) dL_found_16
theorem dX2_init_0 : decode cX2_init 0 = .ok (.aload_n 0, 1) := by decide +kernel
theorem dX2_init_1 : decode cX2_init 1 = .ok (.invokespecial 1, 3) := by decide +kernel
theorem dX2_init_4 : decode cX2_init 4 = .ok (.aload_n 0, 1) := by decide +kernel
theorem dX2_init_5 : decode cX2_init 5 = .ok (.iload_n 1, 1) := by decide +kernel
theorem dX2_init_6 : decode cX2_init 6 = .ok (.ifCond .le 7, 3) := by decide +kernel
theorem dX2_init_9 : decode cX2_init 9 = .ok (.iload_n 1, 1) := by decide +kernel
theorem dX2_init_10 : decode cX2_init 10 = .ok (.goto 4, 3) := by decide +kernel
theorem dX2_init_13 : decode cX2_init 13 = .ok (.iconst 0, 1) := by decide +kernel
theorem dX2_init_14 : decode cX2_init 14 = .ok (.newarray .byte, 2) := by decide +kernel
theorem dX2_init_16 : decode cX2_init 16 = .ok (.putfield 7, 3) := by decide +kernel
theorem dX2_init_19 : decode cX2_init 19 = .ok (.aload_n 0, 1) := by decide +kernel
theorem dX2_init_20 : decode cX2_init 20 = .ok (.iconst 0, 1) := by decide +kernel
theorem dX2_init_21 : decode cX2_init 21 = .ok (.putfield 13, 3) := by decide +kernel
theorem dX2_init_24 : decode cX2_init 24 = .ok (.return_, 1) := by decide +kernel
def f_X2_init_2100 (F : Nat) (S : gk_S) (a : Nat) : Option (Unit × gk_S) := qk (tgb S) <| qv (gk_n S) fun b4 => qv (nK S 10 2100) fun S7 => qk (isb S7 a 1) <| qv (sP S7 100 a (some b4)) fun S12 => qv (sI S12 101 a 0) fun S15 => some ((), S15)
theorem e_X2_init_2100 {X : gk_X} {F : Nat} {S : gk_S} {a : Nat} {r : (Unit × gk_S)} (h0 : f_X2_init_2100 F S a = some r) : EvM X m_X2_init 1 1 2100 [.ref a, .int 2100] S (qRU r) := by
  unfold f_X2_init_2100 at h0
  refine ev_method (by decide +kernel) rfl rfl (Nat.le_of_ble_eq_true rfl) ?_
  show EvW X m_X2_init 1 1 2100 0 [some (.ref a), some (.int 2100)] [] S _
  refine ev_aload_n (pc := 0) (i := 0) rfl rfl rfl dX2_init_0 ?_
  refine ev_objInit (pc := 1) gw_38 gw_31 gw_32 (by decide) (by simp) (by decide) dX2_init_1 ?_
  refine ev_aload_n (pc := 4) (i := 0) rfl rfl rfl dX2_init_4 ?_
  refine ev_iload_n (pc := 5) (i := 1) rfl rfl dX2_init_5 ?_
  refine ev_if_le (pc := 6) (tgt := 13) (by decide) dX2_init_6 (fun c1 => absurd c1 (by decide)) (fun c1 => ?_)
  refine ev_iload_n (pc := 9) (i := 1) rfl rfl dX2_init_9 ?_
  refine ev_goto (pc := 10) (tgt := 14) (by decide) dX2_init_10 ?_
  obtain ⟨g2, h3⟩ := qk_el h0; clear h0
  obtain ⟨b4, e5, h6⟩ := qv_el h3; clear h3
  obtain ⟨S7, e8, h9⟩ := qv_el h6; clear h6
  refine yv_newa (pc := 14) (k := 0) (j := 0) (kd := 10) (N := 2100) g2 (by simp) e5 e8 gw_49 (by decide) (by decide) (by decide) dX2_init_14 ?_
  obtain ⟨g10, h11⟩ := qk_el h9; clear h9
  obtain ⟨S12, e13, h14⟩ := qv_el h11; clear h11
  refine yv_putPF (pc := 16) fn_100 rfl rfl (isb_el g10) e13 gw_39 dX2_init_16 ?_
  refine ev_aload_n (pc := 19) (i := 0) rfl rfl rfl dX2_init_19 ?_
  refine ev_iconst (pc := 20) (v := 0) (by decide) dX2_init_20 ?_
  obtain ⟨S15, e16, h17⟩ := qv_el h14; clear h14
  refine yv_putI (pc := 21) fn_101 ⟨rfl, rfl⟩ (is_sP (isb_el g10) e13) e16 gw_40 dX2_init_21 ?_
  exact ev_return (pc := 24) rfl (by cases h17; rfl) dX2_init_24
def f_X2_init_3000 (F : Nat) (S : gk_S) (a : Nat) : Option (Unit × gk_S) := qk (tgb S) <| qv (gk_n S) fun b4 => qv (nK S 10 3000) fun S7 => qk (isb S7 a 1) <| qv (sP S7 100 a (some b4)) fun S12 => qv (sI S12 101 a 0) fun S15 => some ((), S15)
theorem e_X2_init_3000 {X : gk_X} {F : Nat} {S : gk_S} {a : Nat} {r : (Unit × gk_S)} (h0 : f_X2_init_3000 F S a = some r) : EvM X m_X2_init 1 1 3000 [.ref a, .int 3000] S (qRU r) := by
  unfold f_X2_init_3000 at h0
  refine ev_method (by decide +kernel) rfl rfl (Nat.le_of_ble_eq_true rfl) ?_
  show EvW X m_X2_init 1 1 3000 0 [some (.ref a), some (.int 3000)] [] S _
  refine ev_aload_n (pc := 0) (i := 0) rfl rfl rfl dX2_init_0 ?_
  refine ev_objInit (pc := 1) gw_38 gw_31 gw_32 (by decide) (by simp) (by decide) dX2_init_1 ?_
  refine ev_aload_n (pc := 4) (i := 0) rfl rfl rfl dX2_init_4 ?_
  refine ev_iload_n (pc := 5) (i := 1) rfl rfl dX2_init_5 ?_
  refine ev_if_le (pc := 6) (tgt := 13) (by decide) dX2_init_6 (fun c1 => absurd c1 (by decide)) (fun c1 => ?_)
  refine ev_iload_n (pc := 9) (i := 1) rfl rfl dX2_init_9 ?_
  refine ev_goto (pc := 10) (tgt := 14) (by decide) dX2_init_10 ?_
  obtain ⟨g2, h3⟩ := qk_el h0; clear h0
  obtain ⟨b4, e5, h6⟩ := qv_el h3; clear h3
  obtain ⟨S7, e8, h9⟩ := qv_el h6; clear h6
  refine yv_newa (pc := 14) (k := 0) (j := 0) (kd := 10) (N := 3000) g2 (by simp) e5 e8 gw_49 (by decide) (by decide) (by decide) dX2_init_14 ?_
  obtain ⟨g10, h11⟩ := qk_el h9; clear h9
  obtain ⟨S12, e13, h14⟩ := qv_el h11; clear h11
  refine yv_putPF (pc := 16) fn_100 rfl rfl (isb_el g10) e13 gw_39 dX2_init_16 ?_
  refine ev_aload_n (pc := 19) (i := 0) rfl rfl rfl dX2_init_19 ?_
  refine ev_iconst (pc := 20) (v := 0) (by decide) dX2_init_20 ?_
  obtain ⟨S15, e16, h17⟩ := qv_el h14; clear h14
  refine yv_putI (pc := 21) fn_101 ⟨rfl, rfl⟩ (is_sP (isb_el g10) e13) e16 gw_40 dX2_init_21 ?_
  exact ev_return (pc := 24) rfl (by cases h17; rfl) dX2_init_24
theorem dX5_init_0 : decode cX5_init 0 = .ok (.aload_n 0, 1) := by decide +kernel
theorem dX5_init_1 : decode cX5_init 1 = .ok (.invokespecial 3, 3) := by decide +kernel
theorem dX5_init_4 : decode cX5_init 4 = .ok (.aload_n 0, 1) := by decide +kernel
theorem dX5_init_5 : decode cX5_init 5 = .ok (.bipush 6, 2) := by decide +kernel
theorem dX5_init_7 : decode cX5_init 7 = .ok (.newarray .long, 2) := by decide +kernel
theorem dX5_init_9 : decode cX5_init 9 = .ok (.putfield 9, 3) := by decide +kernel
theorem dX5_init_12 : decode cX5_init 12 = .ok (.aload_n 0, 1) := by decide +kernel
theorem dX5_init_13 : decode cX5_init 13 = .ok (.bipush 6, 2) := by decide +kernel
theorem dX5_init_15 : decode cX5_init 15 = .ok (.newarray .long, 2) := by decide +kernel
theorem dX5_init_17 : decode cX5_init 17 = .ok (.putfield 15, 3) := by decide +kernel
theorem dX5_init_20 : decode cX5_init 20 = .ok (.aload_n 0, 1) := by decide +kernel
theorem dX5_init_21 : decode cX5_init 21 = .ok (.bipush 15, 2) := by decide +kernel
theorem dX5_init_23 : decode cX5_init 23 = .ok (.putfield 18, 3) := by decide +kernel
theorem dX5_init_26 : decode cX5_init 26 = .ok (.aload_n 0, 1) := by decide +kernel
theorem dX5_init_27 : decode cX5_init 27 = .ok (.iconst 0, 1) := by decide +kernel
theorem dX5_init_28 : decode cX5_init 28 = .ok (.putfield 22, 3) := by decide +kernel
theorem dX5_init_31 : decode cX5_init 31 = .ok (.aload_n 0, 1) := by decide +kernel
theorem dX5_init_32 : decode cX5_init 32 = .ok (.iconst 0, 1) := by decide +kernel
theorem dX5_init_33 : decode cX5_init 33 = .ok (.putfield 25, 3) := by decide +kernel
theorem dX5_init_36 : decode cX5_init 36 = .ok (.return_, 1) := by decide +kernel
def f_X5_init (F : Nat) (S : gk_S) (a : Nat) : Option (Unit × gk_S) := qk (tgb S) <| qv (gk_n S) fun b3 => qv (nK S 12 6) fun S6 => qk (isb S6 a 3) <| qv (sP S6 300 a (some b3)) fun S11 => qk (tgb S11) <| qv (gk_n S11) fun b16 => qv (nK S11 12 6) fun S19 => qv (sP S19 301 a (some b16)) fun S22 => qv (sI S22 302 a 15) fun S25 => qv (sI S25 303 a 0) fun S28 => qv (sI S28 304 a 0) fun S31 => some ((), S31)
theorem e_X5_init {X : gk_X} {F : Nat} {S : gk_S} {a : Nat} {r : (Unit × gk_S)} (h0 : f_X5_init F S a = some r) : EvM X m_X5_init 1 2 12 [.ref a] S (qRU r) := by
  unfold f_X5_init at h0
  refine ev_method (by decide +kernel) rfl rfl (Nat.le_of_ble_eq_true rfl) ?_
  show EvW X m_X5_init 1 2 12 0 [some (.ref a)] [] S _
  refine ev_aload_n (pc := 0) (i := 0) rfl rfl rfl dX5_init_0 ?_
  refine ev_objInit (pc := 1) gw_63 gw_31 gw_32 (by decide) (by simp) (by decide) dX5_init_1 ?_
  refine ev_aload_n (pc := 4) (i := 0) rfl rfl rfl dX5_init_4 ?_
  refine ev_bipush (pc := 5) (v := 6) (by decide) dX5_init_5 ?_
  obtain ⟨g1, h2⟩ := qk_el h0; clear h0
  obtain ⟨b3, e4, h5⟩ := qv_el h2; clear h2
  obtain ⟨S6, e7, h8⟩ := qv_el h5; clear h5
  refine yv_newa (pc := 7) (k := 1) (j := 6) (kd := 12) (N := 6) g1 (by simp) e4 e7 gw_89 (by decide) (by decide) (by decide) dX5_init_7 ?_
  obtain ⟨g9, h10⟩ := qk_el h8; clear h8
  obtain ⟨S11, e12, h13⟩ := qv_el h10; clear h10
  refine yv_putPF (pc := 9) fn_300 rfl rfl (isb_el g9) e12 gw_64 dX5_init_9 ?_
  refine ev_aload_n (pc := 12) (i := 0) rfl rfl rfl dX5_init_12 ?_
  refine ev_bipush (pc := 13) (v := 6) (by decide) dX5_init_13 ?_
  obtain ⟨g14, h15⟩ := qk_el h13; clear h13
  obtain ⟨b16, e17, h18⟩ := qv_el h15; clear h15
  obtain ⟨S19, e20, h21⟩ := qv_el h18; clear h18
  refine yv_newa (pc := 15) (k := 0) (j := 0) (kd := 12) (N := 6) g14 (by simp) e17 e20 gw_89 (by decide) (by decide) (by decide) dX5_init_15 ?_
  obtain ⟨S22, e23, h24⟩ := qv_el h21; clear h21
  refine yv_putPF (pc := 17) fn_301 rfl rfl (is_nK (is_sP (isb_el g9) e12) e20) e23 gw_67 dX5_init_17 ?_
  refine ev_aload_n (pc := 20) (i := 0) rfl rfl rfl dX5_init_20 ?_
  refine ev_bipush (pc := 21) (v := 15) (by decide) dX5_init_21 ?_
  obtain ⟨S25, e26, h27⟩ := qv_el h24; clear h24
  refine yv_putI (pc := 23) fn_302 ⟨rfl, rfl⟩ (is_sP (is_nK (is_sP (isb_el g9) e12) e20) e23) e26 gw_70 dX5_init_23 ?_
  refine ev_aload_n (pc := 26) (i := 0) rfl rfl rfl dX5_init_26 ?_
  refine ev_iconst (pc := 27) (v := 0) (by decide) dX5_init_27 ?_
  obtain ⟨S28, e29, h30⟩ := qv_el h27; clear h27
  refine yv_putI (pc := 28) fn_303 ⟨rfl, rfl⟩ (is_sI (is_sP (is_nK (is_sP (isb_el g9) e12) e20) e23) e26) e29 gw_72 dX5_init_28 ?_
  refine ev_aload_n (pc := 31) (i := 0) rfl rfl rfl dX5_init_31 ?_
  refine ev_iconst (pc := 32) (v := 0) (by decide) dX5_init_32 ?_
  obtain ⟨S31, e32, h33⟩ := qv_el h30; clear h30
  refine yv_putI (pc := 33) fn_304 ⟨rfl, rfl⟩ (is_sI (is_sI (is_sP (is_nK (is_sP (isb_el g9) e12) e20) e23) e26) e29) e32 gw_76 dX5_init_33 ?_
  exact ev_return (pc := 36) rfl (by cases h33; rfl) dX5_init_36
theorem dX6_init_0 : decode cX6_init 0 = .ok (.aload_n 0, 1) := by decide +kernel
theorem dX6_init_1 : decode cX6_init 1 = .ok (.invokespecial 3, 3) := by decide +kernel
theorem dX6_init_4 : decode cX6_init 4 = .ok (.aload_n 0, 1) := by decide +kernel
theorem dX6_init_5 : decode cX6_init 5 = .ok (.bipush 16, 2) := by decide +kernel
theorem dX6_init_7 : decode cX6_init 7 = .ok (.anewarray 9, 3) := by decide +kernel
theorem dX6_init_10 : decode cX6_init 10 = .ok (.putfield 11, 3) := by decide +kernel
theorem dX6_init_13 : decode cX6_init 13 = .ok (.iconst 0, 1) := by decide +kernel
theorem dX6_init_14 : decode cX6_init 14 = .ok (.istore_n 1, 1) := by decide +kernel
theorem dX6_init_15 : decode cX6_init 15 = .ok (.iload_n 1, 1) := by decide +kernel
theorem dX6_init_16 : decode cX6_init 16 = .ok (.bipush 16, 2) := by decide +kernel
theorem dX6_init_18 : decode cX6_init 18 = .ok (.if_icmp .ge 22, 3) := by decide +kernel
theorem dX6_init_21 : decode cX6_init 21 = .ok (.aload_n 0, 1) := by decide +kernel
theorem dX6_init_22 : decode cX6_init 22 = .ok (.getfield 11, 3) := by decide +kernel
theorem dX6_init_25 : decode cX6_init 25 = .ok (.iload_n 1, 1) := by decide +kernel
theorem dX6_init_26 : decode cX6_init 26 = .ok (.new 9, 3) := by decide +kernel
theorem dX6_init_29 : decode cX6_init 29 = .ok (.dup, 1) := by decide +kernel
theorem dX6_init_30 : decode cX6_init 30 = .ok (.invokespecial 17, 3) := by decide +kernel
theorem dX6_init_33 : decode cX6_init 33 = .ok (.aastore, 1) := by decide +kernel
theorem dX6_init_34 : decode cX6_init 34 = .ok (.iinc 1 1, 3) := by decide +kernel
theorem dX6_init_37 : decode cX6_init 37 = .ok (.goto (-22), 3) := by decide +kernel
theorem dX6_init_40 : decode cX6_init 40 = .ok (.aload_n 0, 1) := by decide +kernel
theorem dX6_init_41 : decode cX6_init 41 = .ok (.iconst 0, 1) := by decide +kernel
theorem dX6_init_42 : decode cX6_init 42 = .ok (.putfield 18, 3) := by decide +kernel
theorem dX6_init_45 : decode cX6_init 45 = .ok (.aload_n 0, 1) := by decide +kernel
theorem dX6_init_46 : decode cX6_init 46 = .ok (.iconst 0, 1) := by decide +kernel
theorem dX6_init_47 : decode cX6_init 47 = .ok (.putfield 22, 3) := by decide +kernel
theorem dX6_init_50 : decode cX6_init 50 = .ok (.aload_n 0, 1) := by decide +kernel
theorem dX6_init_51 : decode cX6_init 51 = .ok (.iconst 0, 1) := by decide +kernel
theorem dX6_init_52 : decode cX6_init 52 = .ok (.putfield 25, 3) := by decide +kernel
theorem dX6_init_55 : decode cX6_init 55 = .ok (.return_, 1) := by decide +kernel
def f_X6_init (F : Nat) (S : gk_S) (a : Nat) : Option (Unit × gk_S) := qk (tgb S) <| qv (gk_n S) fun b3 => qv (nK S 15 16) fun S6 => qk (isb S6 a 4) <| qv (sP S6 400 a (some b3)) fun S11 => qP (gP S11 400 a) fun b15 => qk (tgb S11) <| qv (gk_n S11) fun b20 => qv (nK S11 3 0) fun S23 => qc (f_X5_init F S23 b20) fun x26 S27 => qk (isb S27 b15 15) <| qk (isb S27 b20 3) <| qk (inb 0 (gL S27 b15)) <| qv (wP S27 b15 0 b20) fun S36 => qk (isb S36 a 4) <| qP (gP S36 400 a) fun b42 => qk (tgb S36) <| qv (gk_n S36) fun b47 => qv (nK S36 3 0) fun S50 => qc (f_X5_init F S50 b47) fun x53 S54 => qk (isb S54 b42 15) <| qk (isb S54 b47 3) <| qk (inb 1 (gL S54 b42)) <| qv (wP S54 b42 1 b47) fun S63 => qk (isb S63 a 4) <| qP (gP S63 400 a) fun b69 => qk (tgb S63) <| qv (gk_n S63) fun b74 => qv (nK S63 3 0) fun S77 => qc (f_X5_init F S77 b74) fun x80 S81 => qk (isb S81 b69 15) <| qk (isb S81 b74 3) <| qk (inb 2 (gL S81 b69)) <| qv (wP S81 b69 2 b74) fun S90 => qk (isb S90 a 4) <| qP (gP S90 400 a) fun b96 => qk (tgb S90) <| qv (gk_n S90) fun b101 => qv (nK S90 3 0) fun S104 => qc (f_X5_init F S104 b101) fun x107 S108 => qk (isb S108 b96 15) <| qk (isb S108 b101 3) <| qk (inb 3 (gL S108 b96)) <| qv (wP S108 b96 3 b101) fun S117 => qk (isb S117 a 4) <| qP (gP S117 400 a) fun b123 => qk (tgb S117) <| qv (gk_n S117) fun b128 => qv (nK S117 3 0) fun S131 => qc (f_X5_init F S131 b128) fun x134 S135 => qk (isb S135 b123 15) <| qk (isb S135 b128 3) <| qk (inb 4 (gL S135 b123)) <| qv (wP S135 b123 4 b128) fun S144 => qk (isb S144 a 4) <| qP (gP S144 400 a) fun b150 => qk (tgb S144) <| qv (gk_n S144) fun b155 => qv (nK S144 3 0) fun S158 => qc (f_X5_init F S158 b155) fun x161 S162 => qk (isb S162 b150 15) <| qk (isb S162 b155 3) <| qk (inb 5 (gL S162 b150)) <| qv (wP S162 b150 5 b155) fun S171 => qk (isb S171 a 4) <| qP (gP S171 400 a) fun b177 => qk (tgb S171) <| qv (gk_n S171) fun b182 => qv (nK S171 3 0) fun S185 => qc (f_X5_init F S185 b182) fun x188 S189 => qk (isb S189 b177 15) <| qk (isb S189 b182 3) <| qk (inb 6 (gL S189 b177)) <| qv (wP S189 b177 6 b182) fun S198 => qk (isb S198 a 4) <| qP (gP S198 400 a) fun b204 => qk (tgb S198) <| qv (gk_n S198) fun b209 => qv (nK S198 3 0) fun S212 => qc (f_X5_init F S212 b209) fun x215 S216 => qk (isb S216 b204 15) <| qk (isb S216 b209 3) <| qk (inb 7 (gL S216 b204)) <| qv (wP S216 b204 7 b209) fun S225 => qk (isb S225 a 4) <| qP (gP S225 400 a) fun b231 => qk (tgb S225) <| qv (gk_n S225) fun b236 => qv (nK S225 3 0) fun S239 => qc (f_X5_init F S239 b236) fun x242 S243 => qk (isb S243 b231 15) <| qk (isb S243 b236 3) <| qk (inb 8 (gL S243 b231)) <| qv (wP S243 b231 8 b236) fun S252 => qk (isb S252 a 4) <| qP (gP S252 400 a) fun b258 => qk (tgb S252) <| qv (gk_n S252) fun b263 => qv (nK S252 3 0) fun S266 => qc (f_X5_init F S266 b263) fun x269 S270 => qk (isb S270 b258 15) <| qk (isb S270 b263 3) <| qk (inb 9 (gL S270 b258)) <| qv (wP S270 b258 9 b263) fun S279 => qk (isb S279 a 4) <| qP (gP S279 400 a) fun b285 => qk (tgb S279) <| qv (gk_n S279) fun b290 => qv (nK S279 3 0) fun S293 => qc (f_X5_init F S293 b290) fun x296 S297 => qk (isb S297 b285 15) <| qk (isb S297 b290 3) <| qk (inb 10 (gL S297 b285)) <| qv (wP S297 b285 10 b290) fun S306 => qk (isb S306 a 4) <| qP (gP S306 400 a) fun b312 => qk (tgb S306) <| qv (gk_n S306) fun b317 => qv (nK S306 3 0) fun S320 => qc (f_X5_init F S320 b317) fun x323 S324 => qk (isb S324 b312 15) <| qk (isb S324 b317 3) <| qk (inb 11 (gL S324 b312)) <| qv (wP S324 b312 11 b317) fun S333 => qk (isb S333 a 4) <| qP (gP S333 400 a) fun b339 => qk (tgb S333) <| qv (gk_n S333) fun b344 => qv (nK S333 3 0) fun S347 => qc (f_X5_init F S347 b344) fun x350 S351 => qk (isb S351 b339 15) <| qk (isb S351 b344 3) <| qk (inb 12 (gL S351 b339)) <| qv (wP S351 b339 12 b344) fun S360 => qk (isb S360 a 4) <| qP (gP S360 400 a) fun b366 => qk (tgb S360) <| qv (gk_n S360) fun b371 => qv (nK S360 3 0) fun S374 => qc (f_X5_init F S374 b371) fun x377 S378 => qk (isb S378 b366 15) <| qk (isb S378 b371 3) <| qk (inb 13 (gL S378 b366)) <| qv (wP S378 b366 13 b371) fun S387 => qk (isb S387 a 4) <| qP (gP S387 400 a) fun b393 => qk (tgb S387) <| qv (gk_n S387) fun b398 => qv (nK S387 3 0) fun S401 => qc (f_X5_init F S401 b398) fun x404 S405 => qk (isb S405 b393 15) <| qk (isb S405 b398 3) <| qk (inb 14 (gL S405 b393)) <| qv (wP S405 b393 14 b398) fun S414 => qk (isb S414 a 4) <| qP (gP S414 400 a) fun b420 => qk (tgb S414) <| qv (gk_n S414) fun b425 => qv (nK S414 3 0) fun S428 => qc (f_X5_init F S428 b425) fun x431 S432 => qk (isb S432 b420 15) <| qk (isb S432 b425 3) <| qk (inb 15 (gL S432 b420)) <| qv (wP S432 b420 15 b425) fun S441 => qk (isb S441 a 4) <| qv (sI S441 401 a 0) fun S447 => qv (sI S447 402 a 0) fun S450 => qv (sI S450 403 a 0) fun S453 => some ((), S453)
theorem e_X6_init {X : gk_X} {F : Nat} {S : gk_S} {a : Nat} {r : (Unit × gk_S)} (h0 : f_X6_init F S a = some r) : EvM X m_X6_init 2 49 288 [.ref a] S (qRU r) := by
  unfold f_X6_init at h0
  refine ev_method (by decide +kernel) rfl rfl (Nat.le_of_ble_eq_true rfl) ?_
  show EvW X m_X6_init 2 49 288 0 [some (.ref a), none] [] S _
  refine ev_aload_n (pc := 0) (i := 0) rfl rfl rfl dX6_init_0 ?_
  refine ev_objInit (pc := 1) gw_56 gw_31 gw_32 (by decide) (by simp) (by decide) dX6_init_1 ?_
  refine ev_aload_n (pc := 4) (i := 0) rfl rfl rfl dX6_init_4 ?_
  refine ev_bipush (pc := 5) (v := 16) (by decide) dX6_init_5 ?_
  obtain ⟨g1, h2⟩ := qk_el h0; clear h0
  obtain ⟨b3, e4, h5⟩ := qv_el h2; clear h2
  obtain ⟨S6, e7, h8⟩ := qv_el h5; clear h5
  refine yv_newq (pc := 7) (k := 48) (j := 272) (kd := 15) (N := 16) g1 (by decide) e4 e7 gw_57 (by decide) (by decide) (by decide) dX6_init_7 ?_
  obtain ⟨g9, h10⟩ := qk_el h8; clear h8
  obtain ⟨S11, e12, h13⟩ := qv_el h10; clear h10
  refine yv_putPF (pc := 10) fn_400 rfl rfl (isb_el g9) e12 gw_90 dX6_init_10 ?_
  refine ev_iconst (pc := 13) (v := 0) (by decide) dX6_init_13 ?_
  refine ev_istore_n (pc := 14) (L' := [some (.ref a), some (.int 0)]) (i := 1) rfl (by decide) rfl rfl dX6_init_14 ?_
  refine ev_iload_n (pc := 15) (i := 1) rfl rfl dX6_init_15 ?_
  refine ev_bipush (pc := 16) (v := 16) (by decide) dX6_init_16 ?_
  refine ev_ic_ge (pc := 18) (tgt := 40) (by decide) dX6_init_18 (fun c14 => absurd c14 (by decide)) (fun c14 => ?_)
  refine ev_aload_n (pc := 21) (i := 0) rfl rfl rfl dX6_init_21 ?_
  obtain ⟨b15, e16, h17⟩ := qP_el h13; clear h13
  refine xv_getP (pc := 22) fn_400 (is_sP (isb_el g9) e12) e16 gw_90 dX6_init_22 ?_
  refine ev_iload_n (pc := 25) (i := 1) rfl rfl dX6_init_25 ?_
  obtain ⟨g18, h19⟩ := qk_el h17; clear h17
  obtain ⟨b20, e21, h22⟩ := qv_el h19; clear h19
  obtain ⟨S23, e24, h25⟩ := qv_el h22; clear h22
  refine yv_new (pc := 26) (k := 47) (j := 267) (ci := 3) g18 (by decide) e21 e24 gw_57 gw_59 gw_4 dX6_init_26 ?_
  refine ev_dup (pc := 29) (.inr rfl) dX6_init_29 ?_
  obtain ⟨x26, S27, e28, h29⟩ := qc_el h25; clear h25
  refine xv_callI (pc := 30) (k := 45) (j := 255) (st := [.ref b20, .int 0, .ref b15]) (as := []) (v := none) (S' := S27) ok_X5_init (e_X5_init e28) (by decide) (by decide) (by decide) rfl (Nat.le_of_ble_eq_true rfl) rfl gw_60 dX6_init_30 ?_
  obtain ⟨g30, h31⟩ := qk_el h29; clear h29
  obtain ⟨g32, h33⟩ := qk_el h31; clear h31
  obtain ⟨g34, h35⟩ := qk_el h33; clear h33
  obtain ⟨S36, e37, h38⟩ := qv_el h35; clear h35
  refine yv_aast (pc := 33) (isb_el g30) (by decide) (isb_el g32) (inb_el g34) e37 dX6_init_33 ?_
  refine ev_iinc (pc := 34) (L' := [some (.ref a), some (.int 1)]) (i := 1) (v := 1) rfl (by decide) (by decide) rfl rfl dX6_init_34 ?_
  refine ev_goto (pc := 37) (tgt := 15) (by decide) dX6_init_37 ?_
  refine ev_iload_n (pc := 15) (i := 1) rfl rfl dX6_init_15 ?_
  refine ev_bipush (pc := 16) (v := 16) (by decide) dX6_init_16 ?_
  refine ev_ic_ge (pc := 18) (tgt := 40) (by decide) dX6_init_18 (fun c39 => absurd c39 (by decide)) (fun c39 => ?_)
  refine ev_aload_n (pc := 21) (i := 0) rfl rfl rfl dX6_init_21 ?_
  obtain ⟨g40, h41⟩ := qk_el h38; clear h38
  obtain ⟨b42, e43, h44⟩ := qP_el h41; clear h41
  refine xv_getP (pc := 22) fn_400 (isb_el g40) e43 gw_90 dX6_init_22 ?_
  refine ev_iload_n (pc := 25) (i := 1) rfl rfl dX6_init_25 ?_
  obtain ⟨g45, h46⟩ := qk_el h44; clear h44
  obtain ⟨b47, e48, h49⟩ := qv_el h46; clear h46
  obtain ⟨S50, e51, h52⟩ := qv_el h49; clear h49
  refine yv_new (pc := 26) (k := 44) (j := 250) (ci := 3) g45 (by decide) e48 e51 gw_57 gw_59 gw_4 dX6_init_26 ?_
  refine ev_dup (pc := 29) (.inr rfl) dX6_init_29 ?_
  obtain ⟨x53, S54, e55, h56⟩ := qc_el h52; clear h52
  refine xv_callI (pc := 30) (k := 42) (j := 238) (st := [.ref b47, .int 1, .ref b42]) (as := []) (v := none) (S' := S54) ok_X5_init (e_X5_init e55) (by decide) (by decide) (by decide) rfl (Nat.le_of_ble_eq_true rfl) rfl gw_60 dX6_init_30 ?_
  obtain ⟨g57, h58⟩ := qk_el h56; clear h56
  obtain ⟨g59, h60⟩ := qk_el h58; clear h58
  obtain ⟨g61, h62⟩ := qk_el h60; clear h60
  obtain ⟨S63, e64, h65⟩ := qv_el h62; clear h62
  refine yv_aast (pc := 33) (isb_el g57) (by decide) (isb_el g59) (inb_el g61) e64 dX6_init_33 ?_
  refine ev_iinc (pc := 34) (L' := [some (.ref a), some (.int 2)]) (i := 1) (v := 2) rfl (by decide) (by decide) rfl rfl dX6_init_34 ?_
  refine ev_goto (pc := 37) (tgt := 15) (by decide) dX6_init_37 ?_
  refine ev_iload_n (pc := 15) (i := 1) rfl rfl dX6_init_15 ?_
  refine ev_bipush (pc := 16) (v := 16) (by decide) dX6_init_16 ?_
  refine ev_ic_ge (pc := 18) (tgt := 40) (by decide) dX6_init_18 (fun c66 => absurd c66 (by decide)) (fun c66 => ?_)
  refine ev_aload_n (pc := 21) (i := 0) rfl rfl rfl dX6_init_21 ?_
  obtain ⟨g67, h68⟩ := qk_el h65; clear h65
  obtain ⟨b69, e70, h71⟩ := qP_el h68; clear h68
  refine xv_getP (pc := 22) fn_400 (isb_el g67) e70 gw_90 dX6_init_22 ?_
  refine ev_iload_n (pc := 25) (i := 1) rfl rfl dX6_init_25 ?_
  obtain ⟨g72, h73⟩ := qk_el h71; clear h71
  obtain ⟨b74, e75, h76⟩ := qv_el h73; clear h73
  obtain ⟨S77, e78, h79⟩ := qv_el h76; clear h76
  refine yv_new (pc := 26) (k := 41) (j := 233) (ci := 3) g72 (by decide) e75 e78 gw_57 gw_59 gw_4 dX6_init_26 ?_
  refine ev_dup (pc := 29) (.inr rfl) dX6_init_29 ?_
  obtain ⟨x80, S81, e82, h83⟩ := qc_el h79; clear h79
  refine xv_callI (pc := 30) (k := 39) (j := 221) (st := [.ref b74, .int 2, .ref b69]) (as := []) (v := none) (S' := S81) ok_X5_init (e_X5_init e82) (by decide) (by decide) (by decide) rfl (Nat.le_of_ble_eq_true rfl) rfl gw_60 dX6_init_30 ?_
  obtain ⟨g84, h85⟩ := qk_el h83; clear h83
  obtain ⟨g86, h87⟩ := qk_el h85; clear h85
  obtain ⟨g88, h89⟩ := qk_el h87; clear h87
  obtain ⟨S90, e91, h92⟩ := qv_el h89; clear h89
  refine yv_aast (pc := 33) (isb_el g84) (by decide) (isb_el g86) (inb_el g88) e91 dX6_init_33 ?_
  refine ev_iinc (pc := 34) (L' := [some (.ref a), some (.int 3)]) (i := 1) (v := 3) rfl (by decide) (by decide) rfl rfl dX6_init_34 ?_
  refine ev_goto (pc := 37) (tgt := 15) (by decide) dX6_init_37 ?_
  refine ev_iload_n (pc := 15) (i := 1) rfl rfl dX6_init_15 ?_
  refine ev_bipush (pc := 16) (v := 16) (by decide) dX6_init_16 ?_
  refine ev_ic_ge (pc := 18) (tgt := 40) (by decide) dX6_init_18 (fun c93 => absurd c93 (by decide)) (fun c93 => ?_)
  refine ev_aload_n (pc := 21) (i := 0) rfl rfl rfl dX6_init_21 ?_
  obtain ⟨g94, h95⟩ := qk_el h92; clear h92
  obtain ⟨b96, e97, h98⟩ := qP_el h95; clear h95
  refine xv_getP (pc := 22) fn_400 (isb_el g94) e97 gw_90 dX6_init_22 ?_
  refine ev_iload_n (pc := 25) (i := 1) rfl rfl dX6_init_25 ?_
  obtain ⟨g99, h100⟩ := qk_el h98; clear h98
  obtain ⟨b101, e102, h103⟩ := qv_el h100; clear h100
  obtain ⟨S104, e105, h106⟩ := qv_el h103; clear h103
  refine yv_new (pc := 26) (k := 38) (j := 216) (ci := 3) g99 (by decide) e102 e105 gw_57 gw_59 gw_4 dX6_init_26 ?_
  refine ev_dup (pc := 29) (.inr rfl) dX6_init_29 ?_
  obtain ⟨x107, S108, e109, h110⟩ := qc_el h106; clear h106
  refine xv_callI (pc := 30) (k := 36) (j := 204) (st := [.ref b101, .int 3, .ref b96]) (as := []) (v := none) (S' := S108) ok_X5_init (e_X5_init e109) (by decide) (by decide) (by decide) rfl (Nat.le_of_ble_eq_true rfl) rfl gw_60 dX6_init_30 ?_
  obtain ⟨g111, h112⟩ := qk_el h110; clear h110
  obtain ⟨g113, h114⟩ := qk_el h112; clear h112
  obtain ⟨g115, h116⟩ := qk_el h114; clear h114
  obtain ⟨S117, e118, h119⟩ := qv_el h116; clear h116
  refine yv_aast (pc := 33) (isb_el g111) (by decide) (isb_el g113) (inb_el g115) e118 dX6_init_33 ?_
  refine ev_iinc (pc := 34) (L' := [some (.ref a), some (.int 4)]) (i := 1) (v := 4) rfl (by decide) (by decide) rfl rfl dX6_init_34 ?_
  refine ev_goto (pc := 37) (tgt := 15) (by decide) dX6_init_37 ?_
  refine ev_iload_n (pc := 15) (i := 1) rfl rfl dX6_init_15 ?_
  refine ev_bipush (pc := 16) (v := 16) (by decide) dX6_init_16 ?_
  refine ev_ic_ge (pc := 18) (tgt := 40) (by decide) dX6_init_18 (fun c120 => absurd c120 (by decide)) (fun c120 => ?_)
  refine ev_aload_n (pc := 21) (i := 0) rfl rfl rfl dX6_init_21 ?_
  obtain ⟨g121, h122⟩ := qk_el h119; clear h119
  obtain ⟨b123, e124, h125⟩ := qP_el h122; clear h122
  refine xv_getP (pc := 22) fn_400 (isb_el g121) e124 gw_90 dX6_init_22 ?_
  refine ev_iload_n (pc := 25) (i := 1) rfl rfl dX6_init_25 ?_
  obtain ⟨g126, h127⟩ := qk_el h125; clear h125
  obtain ⟨b128, e129, h130⟩ := qv_el h127; clear h127
  obtain ⟨S131, e132, h133⟩ := qv_el h130; clear h130
  refine yv_new (pc := 26) (k := 35) (j := 199) (ci := 3) g126 (by decide) e129 e132 gw_57 gw_59 gw_4 dX6_init_26 ?_
  refine ev_dup (pc := 29) (.inr rfl) dX6_init_29 ?_
  obtain ⟨x134, S135, e136, h137⟩ := qc_el h133; clear h133
  refine xv_callI (pc := 30) (k := 33) (j := 187) (st := [.ref b128, .int 4, .ref b123]) (as := []) (v := none) (S' := S135) ok_X5_init (e_X5_init e136) (by decide) (by decide) (by decide) rfl (Nat.le_of_ble_eq_true rfl) rfl gw_60 dX6_init_30 ?_
  obtain ⟨g138, h139⟩ := qk_el h137; clear h137
  obtain ⟨g140, h141⟩ := qk_el h139; clear h139
  obtain ⟨g142, h143⟩ := qk_el h141; clear h141
  obtain ⟨S144, e145, h146⟩ := qv_el h143; clear h143
  refine yv_aast (pc := 33) (isb_el g138) (by decide) (isb_el g140) (inb_el g142) e145 dX6_init_33 ?_
  refine ev_iinc (pc := 34) (L' := [some (.ref a), some (.int 5)]) (i := 1) (v := 5) rfl (by decide) (by decide) rfl rfl dX6_init_34 ?_
  refine ev_goto (pc := 37) (tgt := 15) (by decide) dX6_init_37 ?_
  refine ev_iload_n (pc := 15) (i := 1) rfl rfl dX6_init_15 ?_
  refine ev_bipush (pc := 16) (v := 16) (by decide) dX6_init_16 ?_
  refine ev_ic_ge (pc := 18) (tgt := 40) (by decide) dX6_init_18 (fun c147 => absurd c147 (by decide)) (fun c147 => ?_)
  refine ev_aload_n (pc := 21) (i := 0) rfl rfl rfl dX6_init_21 ?_
  obtain ⟨g148, h149⟩ := qk_el h146; clear h146
  obtain ⟨b150, e151, h152⟩ := qP_el h149; clear h149
  refine xv_getP (pc := 22) fn_400 (isb_el g148) e151 gw_90 dX6_init_22 ?_
  refine ev_iload_n (pc := 25) (i := 1) rfl rfl dX6_init_25 ?_
  obtain ⟨g153, h154⟩ := qk_el h152; clear h152
  obtain ⟨b155, e156, h157⟩ := qv_el h154; clear h154
  obtain ⟨S158, e159, h160⟩ := qv_el h157; clear h157
  refine yv_new (pc := 26) (k := 32) (j := 182) (ci := 3) g153 (by decide) e156 e159 gw_57 gw_59 gw_4 dX6_init_26 ?_
  refine ev_dup (pc := 29) (.inr rfl) dX6_init_29 ?_
  obtain ⟨x161, S162, e163, h164⟩ := qc_el h160; clear h160
  refine xv_callI (pc := 30) (k := 30) (j := 170) (st := [.ref b155, .int 5, .ref b150]) (as := []) (v := none) (S' := S162) ok_X5_init (e_X5_init e163) (by decide) (by decide) (by decide) rfl (Nat.le_of_ble_eq_true rfl) rfl gw_60 dX6_init_30 ?_
  obtain ⟨g165, h166⟩ := qk_el h164; clear h164
  obtain ⟨g167, h168⟩ := qk_el h166; clear h166
  obtain ⟨g169, h170⟩ := qk_el h168; clear h168
  obtain ⟨S171, e172, h173⟩ := qv_el h170; clear h170
  refine yv_aast (pc := 33) (isb_el g165) (by decide) (isb_el g167) (inb_el g169) e172 dX6_init_33 ?_
  refine ev_iinc (pc := 34) (L' := [some (.ref a), some (.int 6)]) (i := 1) (v := 6) rfl (by decide) (by decide) rfl rfl dX6_init_34 ?_
  refine ev_goto (pc := 37) (tgt := 15) (by decide) dX6_init_37 ?_
  refine ev_iload_n (pc := 15) (i := 1) rfl rfl dX6_init_15 ?_
  refine ev_bipush (pc := 16) (v := 16) (by decide) dX6_init_16 ?_
  refine ev_ic_ge (pc := 18) (tgt := 40) (by decide) dX6_init_18 (fun c174 => absurd c174 (by decide)) (fun c174 => ?_)
  refine ev_aload_n (pc := 21) (i := 0) rfl rfl rfl dX6_init_21 ?_
  obtain ⟨g175, h176⟩ := qk_el h173; clear h173
  obtain ⟨b177, e178, h179⟩ := qP_el h176; clear h176
  refine xv_getP (pc := 22) fn_400 (isb_el g175) e178 gw_90 dX6_init_22 ?_
  refine ev_iload_n (pc := 25) (i := 1) rfl rfl dX6_init_25 ?_
  obtain ⟨g180, h181⟩ := qk_el h179; clear h179
  obtain ⟨b182, e183, h184⟩ := qv_el h181; clear h181
  obtain ⟨S185, e186, h187⟩ := qv_el h184; clear h184
  refine yv_new (pc := 26) (k := 29) (j := 165) (ci := 3) g180 (by decide) e183 e186 gw_57 gw_59 gw_4 dX6_init_26 ?_
  refine ev_dup (pc := 29) (.inr rfl) dX6_init_29 ?_
  obtain ⟨x188, S189, e190, h191⟩ := qc_el h187; clear h187
  refine xv_callI (pc := 30) (k := 27) (j := 153) (st := [.ref b182, .int 6, .ref b177]) (as := []) (v := none) (S' := S189) ok_X5_init (e_X5_init e190) (by decide) (by decide) (by decide) rfl (Nat.le_of_ble_eq_true rfl) rfl gw_60 dX6_init_30 ?_
  obtain ⟨g192, h193⟩ := qk_el h191; clear h191
  obtain ⟨g194, h195⟩ := qk_el h193; clear h193
  obtain ⟨g196, h197⟩ := qk_el h195; clear h195
  obtain ⟨S198, e199, h200⟩ := qv_el h197; clear h197
  refine yv_aast (pc := 33) (isb_el g192) (by decide) (isb_el g194) (inb_el g196) e199 dX6_init_33 ?_
  refine ev_iinc (pc := 34) (L' := [some (.ref a), some (.int 7)]) (i := 1) (v := 7) rfl (by decide) (by decide) rfl rfl dX6_init_34 ?_
  refine ev_goto (pc := 37) (tgt := 15) (by decide) dX6_init_37 ?_
  refine ev_iload_n (pc := 15) (i := 1) rfl rfl dX6_init_15 ?_
  refine ev_bipush (pc := 16) (v := 16) (by decide) dX6_init_16 ?_
  refine ev_ic_ge (pc := 18) (tgt := 40) (by decide) dX6_init_18 (fun c201 => absurd c201 (by decide)) (fun c201 => ?_)
  refine ev_aload_n (pc := 21) (i := 0) rfl rfl rfl dX6_init_21 ?_
  obtain ⟨g202, h203⟩ := qk_el h200; clear h200
  obtain ⟨b204, e205, h206⟩ := qP_el h203; clear h203
  refine xv_getP (pc := 22) fn_400 (isb_el g202) e205 gw_90 dX6_init_22 ?_
  refine ev_iload_n (pc := 25) (i := 1) rfl rfl dX6_init_25 ?_
  obtain ⟨g207, h208⟩ := qk_el h206; clear h206
  obtain ⟨b209, e210, h211⟩ := qv_el h208; clear h208
  obtain ⟨S212, e213, h214⟩ := qv_el h211; clear h211
  refine yv_new (pc := 26) (k := 26) (j := 148) (ci := 3) g207 (by decide) e210 e213 gw_57 gw_59 gw_4 dX6_init_26 ?_
  refine ev_dup (pc := 29) (.inr rfl) dX6_init_29 ?_
  obtain ⟨x215, S216, e217, h218⟩ := qc_el h214; clear h214
  refine xv_callI (pc := 30) (k := 24) (j := 136) (st := [.ref b209, .int 7, .ref b204]) (as := []) (v := none) (S' := S216) ok_X5_init (e_X5_init e217) (by decide) (by decide) (by decide) rfl (Nat.le_of_ble_eq_true rfl) rfl gw_60 dX6_init_30 ?_
  obtain ⟨g219, h220⟩ := qk_el h218; clear h218
  obtain ⟨g221, h222⟩ := qk_el h220; clear h220
  obtain ⟨g223, h224⟩ := qk_el h222; clear h222
  obtain ⟨S225, e226, h227⟩ := qv_el h224; clear h224
  refine yv_aast (pc := 33) (isb_el g219) (by decide) (isb_el g221) (inb_el g223) e226 dX6_init_33 ?_
  refine ev_iinc (pc := 34) (L' := [some (.ref a), some (.int 8)]) (i := 1) (v := 8) rfl (by decide) (by decide) rfl rfl dX6_init_34 ?_
  refine ev_goto (pc := 37) (tgt := 15) (by decide) dX6_init_37 ?_
  refine ev_iload_n (pc := 15) (i := 1) rfl rfl dX6_init_15 ?_
  refine ev_bipush (pc := 16) (v := 16) (by decide) dX6_init_16 ?_
  refine ev_ic_ge (pc := 18) (tgt := 40) (by decide) dX6_init_18 (fun c228 => absurd c228 (by decide)) (fun c228 => ?_)
  refine ev_aload_n (pc := 21) (i := 0) rfl rfl rfl dX6_init_21 ?_
  obtain ⟨g229, h230⟩ := qk_el h227; clear h227
  obtain ⟨b231, e232, h233⟩ := qP_el h230; clear h230
  refine xv_getP (pc := 22) fn_400 (isb_el g229) e232 gw_90 dX6_init_22 ?_
  refine ev_iload_n (pc := 25) (i := 1) rfl rfl dX6_init_25 ?_
  obtain ⟨g234, h235⟩ := qk_el h233; clear h233
  obtain ⟨b236, e237, h238⟩ := qv_el h235; clear h235
  obtain ⟨S239, e240, h241⟩ := qv_el h238; clear h238
  refine yv_new (pc := 26) (k := 23) (j := 131) (ci := 3) g234 (by decide) e237 e240 gw_57 gw_59 gw_4 dX6_init_26 ?_
  refine ev_dup (pc := 29) (.inr rfl) dX6_init_29 ?_
  obtain ⟨x242, S243, e244, h245⟩ := qc_el h241; clear h241
  refine xv_callI (pc := 30) (k := 21) (j := 119) (st := [.ref b236, .int 8, .ref b231]) (as := []) (v := none) (S' := S243) ok_X5_init (e_X5_init e244) (by decide) (by decide) (by decide) rfl (Nat.le_of_ble_eq_true rfl) rfl gw_60 dX6_init_30 ?_
  obtain ⟨g246, h247⟩ := qk_el h245; clear h245
  obtain ⟨g248, h249⟩ := qk_el h247; clear h247
  obtain ⟨g250, h251⟩ := qk_el h249; clear h249
  obtain ⟨S252, e253, h254⟩ := qv_el h251; clear h251
  refine yv_aast (pc := 33) (isb_el g246) (by decide) (isb_el g248) (inb_el g250) e253 dX6_init_33 ?_
  refine ev_iinc (pc := 34) (L' := [some (.ref a), some (.int 9)]) (i := 1) (v := 9) rfl (by decide) (by decide) rfl rfl dX6_init_34 ?_
  refine ev_goto (pc := 37) (tgt := 15) (by decide) dX6_init_37 ?_
  refine ev_iload_n (pc := 15) (i := 1) rfl rfl dX6_init_15 ?_
  refine ev_bipush (pc := 16) (v := 16) (by decide) dX6_init_16 ?_
  refine ev_ic_ge (pc := 18) (tgt := 40) (by decide) dX6_init_18 (fun c255 => absurd c255 (by decide)) (fun c255 => ?_)
  refine ev_aload_n (pc := 21) (i := 0) rfl rfl rfl dX6_init_21 ?_
  obtain ⟨g256, h257⟩ := qk_el h254; clear h254
  obtain ⟨b258, e259, h260⟩ := qP_el h257; clear h257
  refine xv_getP (pc := 22) fn_400 (isb_el g256) e259 gw_90 dX6_init_22 ?_
  refine ev_iload_n (pc := 25) (i := 1) rfl rfl dX6_init_25 ?_
  obtain ⟨g261, h262⟩ := qk_el h260; clear h260
  obtain ⟨b263, e264, h265⟩ := qv_el h262; clear h262
  obtain ⟨S266, e267, h268⟩ := qv_el h265; clear h265
  refine yv_new (pc := 26) (k := 20) (j := 114) (ci := 3) g261 (by decide) e264 e267 gw_57 gw_59 gw_4 dX6_init_26 ?_
  refine ev_dup (pc := 29) (.inr rfl) dX6_init_29 ?_
  obtain ⟨x269, S270, e271, h272⟩ := qc_el h268; clear h268
  refine xv_callI (pc := 30) (k := 18) (j := 102) (st := [.ref b263, .int 9, .ref b258]) (as := []) (v := none) (S' := S270) ok_X5_init (e_X5_init e271) (by decide) (by decide) (by decide) rfl (Nat.le_of_ble_eq_true rfl) rfl gw_60 dX6_init_30 ?_
  obtain ⟨g273, h274⟩ := qk_el h272; clear h272
  obtain ⟨g275, h276⟩ := qk_el h274; clear h274
  obtain ⟨g277, h278⟩ := qk_el h276; clear h276
  obtain ⟨S279, e280, h281⟩ := qv_el h278; clear h278
  refine yv_aast (pc := 33) (isb_el g273) (by decide) (isb_el g275) (inb_el g277) e280 dX6_init_33 ?_
  refine ev_iinc (pc := 34) (L' := [some (.ref a), some (.int 10)]) (i := 1) (v := 10) rfl (by decide) (by decide) rfl rfl dX6_init_34 ?_
  refine ev_goto (pc := 37) (tgt := 15) (by decide) dX6_init_37 ?_
  refine ev_iload_n (pc := 15) (i := 1) rfl rfl dX6_init_15 ?_
  refine ev_bipush (pc := 16) (v := 16) (by decide) dX6_init_16 ?_
  refine ev_ic_ge (pc := 18) (tgt := 40) (by decide) dX6_init_18 (fun c282 => absurd c282 (by decide)) (fun c282 => ?_)
  refine ev_aload_n (pc := 21) (i := 0) rfl rfl rfl dX6_init_21 ?_
  obtain ⟨g283, h284⟩ := qk_el h281; clear h281
  obtain ⟨b285, e286, h287⟩ := qP_el h284; clear h284
  refine xv_getP (pc := 22) fn_400 (isb_el g283) e286 gw_90 dX6_init_22 ?_
  refine ev_iload_n (pc := 25) (i := 1) rfl rfl dX6_init_25 ?_
  obtain ⟨g288, h289⟩ := qk_el h287; clear h287
  obtain ⟨b290, e291, h292⟩ := qv_el h289; clear h289
  obtain ⟨S293, e294, h295⟩ := qv_el h292; clear h292
  refine yv_new (pc := 26) (k := 17) (j := 97) (ci := 3) g288 (by decide) e291 e294 gw_57 gw_59 gw_4 dX6_init_26 ?_
  refine ev_dup (pc := 29) (.inr rfl) dX6_init_29 ?_
  obtain ⟨x296, S297, e298, h299⟩ := qc_el h295; clear h295
  refine xv_callI (pc := 30) (k := 15) (j := 85) (st := [.ref b290, .int 10, .ref b285]) (as := []) (v := none) (S' := S297) ok_X5_init (e_X5_init e298) (by decide) (by decide) (by decide) rfl (Nat.le_of_ble_eq_true rfl) rfl gw_60 dX6_init_30 ?_
  obtain ⟨g300, h301⟩ := qk_el h299; clear h299
  obtain ⟨g302, h303⟩ := qk_el h301; clear h301
  obtain ⟨g304, h305⟩ := qk_el h303; clear h303
  obtain ⟨S306, e307, h308⟩ := qv_el h305; clear h305
  refine yv_aast (pc := 33) (isb_el g300) (by decide) (isb_el g302) (inb_el g304) e307 dX6_init_33 ?_
  refine ev_iinc (pc := 34) (L' := [some (.ref a), some (.int 11)]) (i := 1) (v := 11) rfl (by decide) (by decide) rfl rfl dX6_init_34 ?_
  refine ev_goto (pc := 37) (tgt := 15) (by decide) dX6_init_37 ?_
  refine ev_iload_n (pc := 15) (i := 1) rfl rfl dX6_init_15 ?_
  refine ev_bipush (pc := 16) (v := 16) (by decide) dX6_init_16 ?_
  refine ev_ic_ge (pc := 18) (tgt := 40) (by decide) dX6_init_18 (fun c309 => absurd c309 (by decide)) (fun c309 => ?_)
  refine ev_aload_n (pc := 21) (i := 0) rfl rfl rfl dX6_init_21 ?_
  obtain ⟨g310, h311⟩ := qk_el h308; clear h308
  obtain ⟨b312, e313, h314⟩ := qP_el h311; clear h311
  refine xv_getP (pc := 22) fn_400 (isb_el g310) e313 gw_90 dX6_init_22 ?_
  refine ev_iload_n (pc := 25) (i := 1) rfl rfl dX6_init_25 ?_
  obtain ⟨g315, h316⟩ := qk_el h314; clear h314
  obtain ⟨b317, e318, h319⟩ := qv_el h316; clear h316
  obtain ⟨S320, e321, h322⟩ := qv_el h319; clear h319
  refine yv_new (pc := 26) (k := 14) (j := 80) (ci := 3) g315 (by decide) e318 e321 gw_57 gw_59 gw_4 dX6_init_26 ?_
  refine ev_dup (pc := 29) (.inr rfl) dX6_init_29 ?_
  obtain ⟨x323, S324, e325, h326⟩ := qc_el h322; clear h322
  refine xv_callI (pc := 30) (k := 12) (j := 68) (st := [.ref b317, .int 11, .ref b312]) (as := []) (v := none) (S' := S324) ok_X5_init (e_X5_init e325) (by decide) (by decide) (by decide) rfl (Nat.le_of_ble_eq_true rfl) rfl gw_60 dX6_init_30 ?_
  obtain ⟨g327, h328⟩ := qk_el h326; clear h326
  obtain ⟨g329, h330⟩ := qk_el h328; clear h328
  obtain ⟨g331, h332⟩ := qk_el h330; clear h330
  obtain ⟨S333, e334, h335⟩ := qv_el h332; clear h332
  refine yv_aast (pc := 33) (isb_el g327) (by decide) (isb_el g329) (inb_el g331) e334 dX6_init_33 ?_
  refine ev_iinc (pc := 34) (L' := [some (.ref a), some (.int 12)]) (i := 1) (v := 12) rfl (by decide) (by decide) rfl rfl dX6_init_34 ?_
  refine ev_goto (pc := 37) (tgt := 15) (by decide) dX6_init_37 ?_
  refine ev_iload_n (pc := 15) (i := 1) rfl rfl dX6_init_15 ?_
  refine ev_bipush (pc := 16) (v := 16) (by decide) dX6_init_16 ?_
  refine ev_ic_ge (pc := 18) (tgt := 40) (by decide) dX6_init_18 (fun c336 => absurd c336 (by decide)) (fun c336 => ?_)
  refine ev_aload_n (pc := 21) (i := 0) rfl rfl rfl dX6_init_21 ?_
  obtain ⟨g337, h338⟩ := qk_el h335; clear h335
  obtain ⟨b339, e340, h341⟩ := qP_el h338; clear h338
  refine xv_getP (pc := 22) fn_400 (isb_el g337) e340 gw_90 dX6_init_22 ?_
  refine ev_iload_n (pc := 25) (i := 1) rfl rfl dX6_init_25 ?_
  obtain ⟨g342, h343⟩ := qk_el h341; clear h341
  obtain ⟨b344, e345, h346⟩ := qv_el h343; clear h343
  obtain ⟨S347, e348, h349⟩ := qv_el h346; clear h346
  refine yv_new (pc := 26) (k := 11) (j := 63) (ci := 3) g342 (by decide) e345 e348 gw_57 gw_59 gw_4 dX6_init_26 ?_
  refine ev_dup (pc := 29) (.inr rfl) dX6_init_29 ?_
  obtain ⟨x350, S351, e352, h353⟩ := qc_el h349; clear h349
  refine xv_callI (pc := 30) (k := 9) (j := 51) (st := [.ref b344, .int 12, .ref b339]) (as := []) (v := none) (S' := S351) ok_X5_init (e_X5_init e352) (by decide) (by decide) (by decide) rfl (Nat.le_of_ble_eq_true rfl) rfl gw_60 dX6_init_30 ?_
  obtain ⟨g354, h355⟩ := qk_el h353; clear h353
  obtain ⟨g356, h357⟩ := qk_el h355; clear h355
  obtain ⟨g358, h359⟩ := qk_el h357; clear h357
  obtain ⟨S360, e361, h362⟩ := qv_el h359; clear h359
  refine yv_aast (pc := 33) (isb_el g354) (by decide) (isb_el g356) (inb_el g358) e361 dX6_init_33 ?_
  refine ev_iinc (pc := 34) (L' := [some (.ref a), some (.int 13)]) (i := 1) (v := 13) rfl (by decide) (by decide) rfl rfl dX6_init_34 ?_
  refine ev_goto (pc := 37) (tgt := 15) (by decide) dX6_init_37 ?_
  refine ev_iload_n (pc := 15) (i := 1) rfl rfl dX6_init_15 ?_
  refine ev_bipush (pc := 16) (v := 16) (by decide) dX6_init_16 ?_
  refine ev_ic_ge (pc := 18) (tgt := 40) (by decide) dX6_init_18 (fun c363 => absurd c363 (by decide)) (fun c363 => ?_)
  refine ev_aload_n (pc := 21) (i := 0) rfl rfl rfl dX6_init_21 ?_
  obtain ⟨g364, h365⟩ := qk_el h362; clear h362
  obtain ⟨b366, e367, h368⟩ := qP_el h365; clear h365
  refine xv_getP (pc := 22) fn_400 (isb_el g364) e367 gw_90 dX6_init_22 ?_
  refine ev_iload_n (pc := 25) (i := 1) rfl rfl dX6_init_25 ?_
  obtain ⟨g369, h370⟩ := qk_el h368; clear h368
  obtain ⟨b371, e372, h373⟩ := qv_el h370; clear h370
  obtain ⟨S374, e375, h376⟩ := qv_el h373; clear h373
  refine yv_new (pc := 26) (k := 8) (j := 46) (ci := 3) g369 (by decide) e372 e375 gw_57 gw_59 gw_4 dX6_init_26 ?_
  refine ev_dup (pc := 29) (.inr rfl) dX6_init_29 ?_
  obtain ⟨x377, S378, e379, h380⟩ := qc_el h376; clear h376
  refine xv_callI (pc := 30) (k := 6) (j := 34) (st := [.ref b371, .int 13, .ref b366]) (as := []) (v := none) (S' := S378) ok_X5_init (e_X5_init e379) (by decide) (by decide) (by decide) rfl (Nat.le_of_ble_eq_true rfl) rfl gw_60 dX6_init_30 ?_
  obtain ⟨g381, h382⟩ := qk_el h380; clear h380
  obtain ⟨g383, h384⟩ := qk_el h382; clear h382
  obtain ⟨g385, h386⟩ := qk_el h384; clear h384
  obtain ⟨S387, e388, h389⟩ := qv_el h386; clear h386
  refine yv_aast (pc := 33) (isb_el g381) (by decide) (isb_el g383) (inb_el g385) e388 dX6_init_33 ?_
  refine ev_iinc (pc := 34) (L' := [some (.ref a), some (.int 14)]) (i := 1) (v := 14) rfl (by decide) (by decide) rfl rfl dX6_init_34 ?_
  refine ev_goto (pc := 37) (tgt := 15) (by decide) dX6_init_37 ?_
  refine ev_iload_n (pc := 15) (i := 1) rfl rfl dX6_init_15 ?_
  refine ev_bipush (pc := 16) (v := 16) (by decide) dX6_init_16 ?_
  refine ev_ic_ge (pc := 18) (tgt := 40) (by decide) dX6_init_18 (fun c390 => absurd c390 (by decide)) (fun c390 => ?_)
  refine ev_aload_n (pc := 21) (i := 0) rfl rfl rfl dX6_init_21 ?_
  obtain ⟨g391, h392⟩ := qk_el h389; clear h389
  obtain ⟨b393, e394, h395⟩ := qP_el h392; clear h392
  refine xv_getP (pc := 22) fn_400 (isb_el g391) e394 gw_90 dX6_init_22 ?_
  refine ev_iload_n (pc := 25) (i := 1) rfl rfl dX6_init_25 ?_
  obtain ⟨g396, h397⟩ := qk_el h395; clear h395
  obtain ⟨b398, e399, h400⟩ := qv_el h397; clear h397
  obtain ⟨S401, e402, h403⟩ := qv_el h400; clear h400
  refine yv_new (pc := 26) (k := 5) (j := 29) (ci := 3) g396 (by decide) e399 e402 gw_57 gw_59 gw_4 dX6_init_26 ?_
  refine ev_dup (pc := 29) (.inr rfl) dX6_init_29 ?_
  obtain ⟨x404, S405, e406, h407⟩ := qc_el h403; clear h403
  refine xv_callI (pc := 30) (k := 3) (j := 17) (st := [.ref b398, .int 14, .ref b393]) (as := []) (v := none) (S' := S405) ok_X5_init (e_X5_init e406) (by decide) (by decide) (by decide) rfl (Nat.le_of_ble_eq_true rfl) rfl gw_60 dX6_init_30 ?_
  obtain ⟨g408, h409⟩ := qk_el h407; clear h407
  obtain ⟨g410, h411⟩ := qk_el h409; clear h409
  obtain ⟨g412, h413⟩ := qk_el h411; clear h411
  obtain ⟨S414, e415, h416⟩ := qv_el h413; clear h413
  refine yv_aast (pc := 33) (isb_el g408) (by decide) (isb_el g410) (inb_el g412) e415 dX6_init_33 ?_
  refine ev_iinc (pc := 34) (L' := [some (.ref a), some (.int 15)]) (i := 1) (v := 15) rfl (by decide) (by decide) rfl rfl dX6_init_34 ?_
  refine ev_goto (pc := 37) (tgt := 15) (by decide) dX6_init_37 ?_
  refine ev_iload_n (pc := 15) (i := 1) rfl rfl dX6_init_15 ?_
  refine ev_bipush (pc := 16) (v := 16) (by decide) dX6_init_16 ?_
  refine ev_ic_ge (pc := 18) (tgt := 40) (by decide) dX6_init_18 (fun c417 => absurd c417 (by decide)) (fun c417 => ?_)
  refine ev_aload_n (pc := 21) (i := 0) rfl rfl rfl dX6_init_21 ?_
  obtain ⟨g418, h419⟩ := qk_el h416; clear h416
  obtain ⟨b420, e421, h422⟩ := qP_el h419; clear h419
  refine xv_getP (pc := 22) fn_400 (isb_el g418) e421 gw_90 dX6_init_22 ?_
  refine ev_iload_n (pc := 25) (i := 1) rfl rfl dX6_init_25 ?_
  obtain ⟨g423, h424⟩ := qk_el h422; clear h422
  obtain ⟨b425, e426, h427⟩ := qv_el h424; clear h424
  obtain ⟨S428, e429, h430⟩ := qv_el h427; clear h427
  refine yv_new (pc := 26) (k := 2) (j := 12) (ci := 3) g423 (by decide) e426 e429 gw_57 gw_59 gw_4 dX6_init_26 ?_
  refine ev_dup (pc := 29) (.inr rfl) dX6_init_29 ?_
  obtain ⟨x431, S432, e433, h434⟩ := qc_el h430; clear h430
  refine xv_callI (pc := 30) (k := 0) (j := 0) (st := [.ref b425, .int 15, .ref b420]) (as := []) (v := none) (S' := S432) ok_X5_init (e_X5_init e433) (by decide) (by decide) (by decide) rfl (Nat.le_of_ble_eq_true rfl) rfl gw_60 dX6_init_30 ?_
  obtain ⟨g435, h436⟩ := qk_el h434; clear h434
  obtain ⟨g437, h438⟩ := qk_el h436; clear h436
  obtain ⟨g439, h440⟩ := qk_el h438; clear h438
  obtain ⟨S441, e442, h443⟩ := qv_el h440; clear h440
  refine yv_aast (pc := 33) (isb_el g435) (by decide) (isb_el g437) (inb_el g439) e442 dX6_init_33 ?_
  refine ev_iinc (pc := 34) (L' := [some (.ref a), some (.int 16)]) (i := 1) (v := 16) rfl (by decide) (by decide) rfl rfl dX6_init_34 ?_
  refine ev_goto (pc := 37) (tgt := 15) (by decide) dX6_init_37 ?_
  refine ev_iload_n (pc := 15) (i := 1) rfl rfl dX6_init_15 ?_
  refine ev_bipush (pc := 16) (v := 16) (by decide) dX6_init_16 ?_
  refine ev_ic_ge (pc := 18) (tgt := 40) (by decide) dX6_init_18 (fun c444 => ?_) (fun c444 => absurd (by decide) c444)
  refine ev_aload_n (pc := 40) (i := 0) rfl rfl rfl dX6_init_40 ?_
  refine ev_iconst (pc := 41) (v := 0) (by decide) dX6_init_41 ?_
  obtain ⟨g445, h446⟩ := qk_el h443; clear h443
  obtain ⟨S447, e448, h449⟩ := qv_el h446; clear h446
  refine yv_putI (pc := 42) fn_401 ⟨rfl, rfl⟩ (isb_el g445) e448 gw_91 dX6_init_42 ?_
  refine ev_aload_n (pc := 45) (i := 0) rfl rfl rfl dX6_init_45 ?_
  refine ev_iconst (pc := 46) (v := 0) (by decide) dX6_init_46 ?_
  obtain ⟨S450, e451, h452⟩ := qv_el h449; clear h449
  refine yv_putI (pc := 47) fn_402 ⟨rfl, rfl⟩ (is_sI (isb_el g445) e448) e451 gw_96 dX6_init_47 ?_
  refine ev_aload_n (pc := 50) (i := 0) rfl rfl rfl dX6_init_50 ?_
  refine ev_iconst (pc := 51) (v := 0) (by decide) dX6_init_51 ?_
  obtain ⟨S453, e454, h455⟩ := qv_el h452; clear h452
  refine yv_putI (pc := 52) fn_403 ⟨rfl, rfl⟩ (is_sI (is_sI (isb_el g445) e448) e451) e454 gw_101 dX6_init_52 ?_
  exact ev_return (pc := 55) rfl (by cases h455; rfl) dX6_init_55
theorem dX9_init_0 : decode cX9_init 0 = .ok (.aload_n 0, 1) := by decide +kernel
theorem dX9_init_1 : decode cX9_init 1 = .ok (.invokespecial 3, 3) := by decide +kernel
theorem dX9_init_4 : decode cX9_init 4 = .ok (.aload_n 0, 1) := by decide +kernel
theorem dX9_init_5 : decode cX9_init 5 = .ok (.aload_n 1, 1) := by decide +kernel
theorem dX9_init_6 : decode cX9_init 6 = .ok (.putfield 9, 3) := by decide +kernel
theorem dX9_init_9 : decode cX9_init 9 = .ok (.aload_n 0, 1) := by decide +kernel
theorem dX9_init_10 : decode cX9_init 10 = .ok (.iconst 0, 1) := by decide +kernel
theorem dX9_init_11 : decode cX9_init 11 = .ok (.putfield 15, 3) := by decide +kernel
theorem dX9_init_14 : decode cX9_init 14 = .ok (.aload_n 0, 1) := by decide +kernel
theorem dX9_init_15 : decode cX9_init 15 = .ok (.iconst 0, 1) := by decide +kernel
theorem dX9_init_16 : decode cX9_init 16 = .ok (.putfield 19, 3) := by decide +kernel
theorem dX9_init_19 : decode cX9_init 19 = .ok (.aload_n 0, 1) := by decide +kernel
theorem dX9_init_20 : decode cX9_init 20 = .ok (.sipush 256, 3) := by decide +kernel
theorem dX9_init_23 : decode cX9_init 23 = .ok (.putfield 22, 3) := by decide +kernel
theorem dX9_init_26 : decode cX9_init 26 = .ok (.aload_n 0, 1) := by decide +kernel
theorem dX9_init_27 : decode cX9_init 27 = .ok (.iconst 0, 1) := by decide +kernel
theorem dX9_init_28 : decode cX9_init 28 = .ok (.putfield 25, 3) := by decide +kernel
theorem dX9_init_31 : decode cX9_init 31 = .ok (.aload_n 0, 1) := by decide +kernel
theorem dX9_init_32 : decode cX9_init 32 = .ok (.iconst 0, 1) := by decide +kernel
theorem dX9_init_33 : decode cX9_init 33 = .ok (.putfield 28, 3) := by decide +kernel
theorem dX9_init_36 : decode cX9_init 36 = .ok (.aload_n 0, 1) := by decide +kernel
theorem dX9_init_37 : decode cX9_init 37 = .ok (.lconst 0, 1) := by decide +kernel
theorem dX9_init_38 : decode cX9_init 38 = .ok (.putfield 31, 3) := by decide +kernel
theorem dX9_init_41 : decode cX9_init 41 = .ok (.aload_n 0, 1) := by decide +kernel
theorem dX9_init_42 : decode cX9_init 42 = .ok (.iconst 0, 1) := by decide +kernel
theorem dX9_init_43 : decode cX9_init 43 = .ok (.putfield 35, 3) := by decide +kernel
theorem dX9_init_46 : decode cX9_init 46 = .ok (.aload_n 0, 1) := by decide +kernel
theorem dX9_init_47 : decode cX9_init 47 = .ok (.iconst 0, 1) := by decide +kernel
theorem dX9_init_48 : decode cX9_init 48 = .ok (.putfield 38, 3) := by decide +kernel
theorem dX9_init_51 : decode cX9_init 51 = .ok (.aload_n 0, 1) := by decide +kernel
theorem dX9_init_52 : decode cX9_init 52 = .ok (.iconst 0, 1) := by decide +kernel
theorem dX9_init_53 : decode cX9_init 53 = .ok (.putfield 41, 3) := by decide +kernel
theorem dX9_init_56 : decode cX9_init 56 = .ok (.aload_n 0, 1) := by decide +kernel
theorem dX9_init_57 : decode cX9_init 57 = .ok (.lconst 0, 1) := by decide +kernel
theorem dX9_init_58 : decode cX9_init 58 = .ok (.putfield 44, 3) := by decide +kernel
theorem dX9_init_61 : decode cX9_init 61 = .ok (.return_, 1) := by decide +kernel
def f_X9_init (F : Nat) (S : gk_S) (a : Nat) (p0 : Nat) : Option (Unit × gk_S) := qk (isb S a 7) <| qv (sP S 700 a (some p0)) fun S3 => qv (sI S3 701 a 0) fun S6 => qv (sI S6 702 a 0) fun S9 => qv (sI S9 703 a 256) fun S12 => qv (sI S12 704 a 0) fun S15 => qv (sI S15 705 a 0) fun S18 => qv (sJ S18 706 a 0) fun S21 => qv (sI S21 707 a 0) fun S24 => qv (sI S24 708 a 0) fun S27 => qv (sI S27 709 a 0) fun S30 => qv (sJ S30 710 a 0) fun S33 => some ((), S33)
theorem e_X9_init {X : gk_X} {F : Nat} {S : gk_S} {a : Nat} {p0 : Nat} {r : (Unit × gk_S)} (h0 : f_X9_init F S a p0 = some r) : EvM X m_X9_init 1 0 0 [.ref a, .ref p0] S (qRU r) := by
  unfold f_X9_init at h0
  refine ev_method (by decide +kernel) rfl rfl (Nat.le_of_ble_eq_true rfl) ?_
  show EvW X m_X9_init 1 0 0 0 [some (.ref a), some (.ref p0)] [] S _
  refine ev_aload_n (pc := 0) (i := 0) rfl rfl rfl dX9_init_0 ?_
  refine ev_objInit (pc := 1) gw_117 gw_31 gw_32 (by decide) (by simp) (by decide) dX9_init_1 ?_
  refine ev_aload_n (pc := 4) (i := 0) rfl rfl rfl dX9_init_4 ?_
  refine ev_aload_n (pc := 5) (i := 1) rfl rfl rfl dX9_init_5 ?_
  obtain ⟨g1, h2⟩ := qk_el h0; clear h0
  obtain ⟨S3, e4, h5⟩ := qv_el h2; clear h2
  refine yv_putPF (pc := 6) fn_700 rfl rfl (isb_el g1) e4 gw_118 dX9_init_6 ?_
  refine ev_aload_n (pc := 9) (i := 0) rfl rfl rfl dX9_init_9 ?_
  refine ev_iconst (pc := 10) (v := 0) (by decide) dX9_init_10 ?_
  obtain ⟨S6, e7, h8⟩ := qv_el h5; clear h5
  refine yv_putI (pc := 11) fn_701 ⟨rfl, rfl⟩ (is_sP (isb_el g1) e4) e7 gw_119 dX9_init_11 ?_
  refine ev_aload_n (pc := 14) (i := 0) rfl rfl rfl dX9_init_14 ?_
  refine ev_iconst (pc := 15) (v := 0) (by decide) dX9_init_15 ?_
  obtain ⟨S9, e10, h11⟩ := qv_el h8; clear h8
  refine yv_putI (pc := 16) fn_702 ⟨rfl, rfl⟩ (is_sI (is_sP (isb_el g1) e4) e7) e10 gw_121 dX9_init_16 ?_
  refine ev_aload_n (pc := 19) (i := 0) rfl rfl rfl dX9_init_19 ?_
  refine ev_sipush (pc := 20) (v := 256) (by decide) dX9_init_20 ?_
  obtain ⟨S12, e13, h14⟩ := qv_el h11; clear h11
  refine yv_putI (pc := 23) fn_703 ⟨rfl, rfl⟩ (is_sI (is_sI (is_sP (isb_el g1) e4) e7) e10) e13 gw_123 dX9_init_23 ?_
  refine ev_aload_n (pc := 26) (i := 0) rfl rfl rfl dX9_init_26 ?_
  refine ev_iconst (pc := 27) (v := 0) (by decide) dX9_init_27 ?_
  obtain ⟨S15, e16, h17⟩ := qv_el h14; clear h14
  refine yv_putI (pc := 28) fn_704 ⟨rfl, rfl⟩ (is_sI (is_sI (is_sI (is_sP (isb_el g1) e4) e7) e10) e13) e16 gw_124 dX9_init_28 ?_
  refine ev_aload_n (pc := 31) (i := 0) rfl rfl rfl dX9_init_31 ?_
  refine ev_iconst (pc := 32) (v := 0) (by decide) dX9_init_32 ?_
  obtain ⟨S18, e19, h20⟩ := qv_el h17; clear h17
  refine yv_putI (pc := 33) fn_705 ⟨rfl, rfl⟩ (is_sI (is_sI (is_sI (is_sI (is_sP (isb_el g1) e4) e7) e10) e13) e16) e19 gw_125 dX9_init_33 ?_
  refine ev_aload_n (pc := 36) (i := 0) rfl rfl rfl dX9_init_36 ?_
  refine ev_lconst (pc := 37) (v := 0) (by decide) dX9_init_37 ?_
  obtain ⟨S21, e22, h23⟩ := qv_el h20; clear h20
  refine yv_putJ (pc := 38) fn_706 (is_sI (is_sI (is_sI (is_sI (is_sI (is_sP (isb_el g1) e4) e7) e10) e13) e16) e19) e22 gw_126 dX9_init_38 ?_
  refine ev_aload_n (pc := 41) (i := 0) rfl rfl rfl dX9_init_41 ?_
  refine ev_iconst (pc := 42) (v := 0) (by decide) dX9_init_42 ?_
  obtain ⟨S24, e25, h26⟩ := qv_el h23; clear h23
  refine yv_putI (pc := 43) fn_707 ⟨rfl, rfl⟩ (is_sJ (is_sI (is_sI (is_sI (is_sI (is_sI (is_sP (isb_el g1) e4) e7) e10) e13) e16) e19) e22) e25 gw_127 dX9_init_43 ?_
  refine ev_aload_n (pc := 46) (i := 0) rfl rfl rfl dX9_init_46 ?_
  refine ev_iconst (pc := 47) (v := 0) (by decide) dX9_init_47 ?_
  obtain ⟨S27, e28, h29⟩ := qv_el h26; clear h26
  refine yv_putI (pc := 48) fn_708 ⟨rfl, rfl⟩ (is_sI (is_sJ (is_sI (is_sI (is_sI (is_sI (is_sI (is_sP (isb_el g1) e4) e7) e10) e13) e16) e19) e22) e25) e28 gw_128 dX9_init_48 ?_
  refine ev_aload_n (pc := 51) (i := 0) rfl rfl rfl dX9_init_51 ?_
  refine ev_iconst (pc := 52) (v := 0) (by decide) dX9_init_52 ?_
  obtain ⟨S30, e31, h32⟩ := qv_el h29; clear h29
  refine yv_putI (pc := 53) fn_709 ⟨rfl, rfl⟩ (is_sI (is_sI (is_sJ (is_sI (is_sI (is_sI (is_sI (is_sI (is_sP (isb_el g1) e4) e7) e10) e13) e16) e19) e22) e25) e28) e31 gw_129 dX9_init_53 ?_
  refine ev_aload_n (pc := 56) (i := 0) rfl rfl rfl dX9_init_56 ?_
  refine ev_lconst (pc := 57) (v := 0) (by decide) dX9_init_57 ?_
  obtain ⟨S33, e34, h35⟩ := qv_el h32; clear h32
  refine yv_putJ (pc := 58) fn_710 (is_sI (is_sI (is_sI (is_sJ (is_sI (is_sI (is_sI (is_sI (is_sI (is_sP (isb_el g1) e4) e7) e10) e13) e16) e19) e22) e25) e28) e31) e34 gw_130 dX9_init_58 ?_
  exact ev_return (pc := 61) rfl (by cases h35; rfl) dX9_init_61
theorem dX7_init_0 : decode cX7_init 0 = .ok (.aload_n 0, 1) := by decide +kernel
theorem dX7_init_1 : decode cX7_init 1 = .ok (.invokespecial 5, 3) := by decide +kernel
theorem dX7_init_4 : decode cX7_init 4 = .ok (.aload_n 0, 1) := by decide +kernel
theorem dX7_init_5 : decode cX7_init 5 = .ok (.bipush 7, 2) := by decide +kernel
theorem dX7_init_7 : decode cX7_init 7 = .ok (.newarray .long, 2) := by decide +kernel
theorem dX7_init_9 : decode cX7_init 9 = .ok (.putfield 11, 3) := by decide +kernel
theorem dX7_init_12 : decode cX7_init 12 = .ok (.aload_n 0, 1) := by decide +kernel
theorem dX7_init_13 : decode cX7_init 13 = .ok (.bipush 7, 2) := by decide +kernel
theorem dX7_init_15 : decode cX7_init 15 = .ok (.bipush 65, 2) := by decide +kernel
theorem dX7_init_17 : decode cX7_init 17 = .ok (.multianewarray 15 2, 4) := by decide +kernel
theorem dX7_init_21 : decode cX7_init 21 = .ok (.putfield 17, 3) := by decide +kernel
theorem dX7_init_24 : decode cX7_init 24 = .ok (.aload_n 0, 1) := by decide +kernel
theorem dX7_init_25 : decode cX7_init 25 = .ok (.bipush 7, 2) := by decide +kernel
theorem dX7_init_27 : decode cX7_init 27 = .ok (.bipush 65, 2) := by decide +kernel
theorem dX7_init_29 : decode cX7_init 29 = .ok (.multianewarray 20 2, 4) := by decide +kernel
theorem dX7_init_33 : decode cX7_init 33 = .ok (.putfield 22, 3) := by decide +kernel
theorem dX7_init_36 : decode cX7_init 36 = .ok (.aload_n 0, 1) := by decide +kernel
theorem dX7_init_37 : decode cX7_init 37 = .ok (.bipush 7, 2) := by decide +kernel
theorem dX7_init_39 : decode cX7_init 39 = .ok (.newarray .int, 2) := by decide +kernel
theorem dX7_init_41 : decode cX7_init 41 = .ok (.putfield 25, 3) := by decide +kernel
theorem dX7_init_44 : decode cX7_init 44 = .ok (.aload_n 0, 1) := by decide +kernel
theorem dX7_init_45 : decode cX7_init 45 = .ok (.bipush 8, 2) := by decide +kernel
theorem dX7_init_47 : decode cX7_init 47 = .ok (.newarray .int, 2) := by decide +kernel
theorem dX7_init_49 : decode cX7_init 49 = .ok (.putfield 29, 3) := by decide +kernel
theorem dX7_init_52 : decode cX7_init 52 = .ok (.aload_n 0, 1) := by decide +kernel
theorem dX7_init_53 : decode cX7_init 53 = .ok (.iconst 3, 1) := by decide +kernel
theorem dX7_init_54 : decode cX7_init 54 = .ok (.newarray .int, 2) := by decide +kernel
theorem dX7_init_56 : decode cX7_init 56 = .ok (.putfield 32, 3) := by decide +kernel
theorem dX7_init_59 : decode cX7_init 59 = .ok (.aload_n 0, 1) := by decide +kernel
theorem dX7_init_60 : decode cX7_init 60 = .ok (.iconst 0, 1) := by decide +kernel
theorem dX7_init_61 : decode cX7_init 61 = .ok (.putfield 35, 3) := by decide +kernel
theorem dX7_init_64 : decode cX7_init 64 = .ok (.aload_n 0, 1) := by decide +kernel
theorem dX7_init_65 : decode cX7_init 65 = .ok (.sipush 1024, 3) := by decide +kernel
theorem dX7_init_68 : decode cX7_init 68 = .ok (.newarray .long, 2) := by decide +kernel
theorem dX7_init_70 : decode cX7_init 70 = .ok (.putfield 39, 3) := by decide +kernel
theorem dX7_init_73 : decode cX7_init 73 = .ok (.aload_n 0, 1) := by decide +kernel
theorem dX7_init_74 : decode cX7_init 74 = .ok (.lconst 0, 1) := by decide +kernel
theorem dX7_init_75 : decode cX7_init 75 = .ok (.putfield 42, 3) := by decide +kernel
theorem dX7_init_78 : decode cX7_init 78 = .ok (.return_, 1) := by decide +kernel
def f_X7_init (F : Nat) (S : gk_S) (a : Nat) : Option (Unit × gk_S) := qk (tgb S) <| qv (gk_n S) fun b3 => qv (nK S 12 7) fun S6 => qk (isb S6 a 5) <| qv (sP S6 500 a (some b3)) fun S11 => qk (tgb S11) <| qv (gk_n S11) fun b16 => qv (gk_mn S11 18 12 7 65) fun S19 => qk (isb S19 a 5) <| qv (sP S19 501 a (some b16)) fun S24 => qk (tgb S24) <| qv (gk_n S24) fun b29 => qv (gk_mn S24 17 11 7 65) fun S32 => qk (isb S32 a 5) <| qv (sP S32 502 a (some b29)) fun S37 => qk (tgb S37) <| qv (gk_n S37) fun b42 => qv (nK S37 11 7) fun S45 => qv (sP S45 503 a (some b42)) fun S48 => qk (tgb S48) <| qv (gk_n S48) fun b53 => qv (nK S48 11 8) fun S56 => qv (sP S56 504 a (some b53)) fun S59 => qk (tgb S59) <| qv (gk_n S59) fun b64 => qv (nK S59 11 3) fun S67 => qv (sP S67 505 a (some b64)) fun S70 => qv (sI S70 506 a 0) fun S73 => qk (tgb S73) <| qv (gk_n S73) fun b78 => qv (nK S73 12 1024) fun S81 => qv (sP S81 507 a (some b78)) fun S84 => qv (sJ S84 508 a 0) fun S87 => some ((), S87)
theorem e_X7_init {X : gk_X} {F : Nat} {S : gk_S} {a : Nat} {r : (Unit × gk_S)} (h0 : f_X7_init F S a = some r) : EvM X m_X7_init 1 21 1973 [.ref a] S (qRU r) := by
  unfold f_X7_init at h0
  refine ev_method (by decide +kernel) rfl rfl (Nat.le_of_ble_eq_true rfl) ?_
  show EvW X m_X7_init 1 21 1973 0 [some (.ref a)] [] S _
  refine ev_aload_n (pc := 0) (i := 0) rfl rfl rfl dX7_init_0 ?_
  refine ev_objInit (pc := 1) gw_159 gw_31 gw_32 (by decide) (by simp) (by decide) dX7_init_1 ?_
  refine ev_aload_n (pc := 4) (i := 0) rfl rfl rfl dX7_init_4 ?_
  refine ev_bipush (pc := 5) (v := 7) (by decide) dX7_init_5 ?_
  obtain ⟨g1, h2⟩ := qk_el h0; clear h0
  obtain ⟨b3, e4, h5⟩ := qv_el h2; clear h2
  obtain ⟨S6, e7, h8⟩ := qv_el h5; clear h5
  refine yv_newa (pc := 7) (k := 20) (j := 1966) (kd := 12) (N := 7) g1 (by simp) e4 e7 gw_89 (by decide) (by decide) (by decide) dX7_init_7 ?_
  obtain ⟨g9, h10⟩ := qk_el h8; clear h8
  obtain ⟨S11, e12, h13⟩ := qv_el h10; clear h10
  refine yv_putPF (pc := 9) fn_500 rfl rfl (isb_el g9) e12 gw_164 dX7_init_9 ?_
  refine ev_aload_n (pc := 12) (i := 0) rfl rfl rfl dX7_init_12 ?_
  refine ev_bipush (pc := 13) (v := 7) (by decide) dX7_init_13 ?_
  refine ev_bipush (pc := 15) (v := 65) (by decide) dX7_init_15 ?_
  obtain ⟨g14, h15⟩ := qk_el h13; clear h13
  obtain ⟨b16, e17, h18⟩ := qv_el h15; clear h15
  obtain ⟨S19, e20, h21⟩ := qv_el h18; clear h18
  refine yv_mna (pc := 17) (k := 12) (j := 1504) (ok := 18) (ik := 12) (ty := .long) g14 (by simp) e17 e20 gw_160 gw_89 (by decide) (by decide) (by decide) (by decide) (by decide) dX7_init_17 ?_
  obtain ⟨g22, h23⟩ := qk_el h21; clear h21
  obtain ⟨S24, e25, h26⟩ := qv_el h23; clear h23
  refine yv_putPF (pc := 21) fn_501 rfl rfl (isb_el g22) e25 gw_166 dX7_init_21 ?_
  refine ev_aload_n (pc := 24) (i := 0) rfl rfl rfl dX7_init_24 ?_
  refine ev_bipush (pc := 25) (v := 7) (by decide) dX7_init_25 ?_
  refine ev_bipush (pc := 27) (v := 65) (by decide) dX7_init_27 ?_
  obtain ⟨g27, h28⟩ := qk_el h26; clear h26
  obtain ⟨b29, e30, h31⟩ := qv_el h28; clear h28
  obtain ⟨S32, e33, h34⟩ := qv_el h31; clear h31
  refine yv_mna (pc := 29) (k := 4) (j := 1042) (ok := 17) (ik := 11) (ty := .int) g27 (by simp) e30 e33 gw_162 gw_193 (by decide) (by decide) (by decide) (by decide) (by decide) dX7_init_29 ?_
  obtain ⟨g35, h36⟩ := qk_el h34; clear h34
  obtain ⟨S37, e38, h39⟩ := qv_el h36; clear h36
  refine yv_putPF (pc := 33) fn_502 rfl rfl (isb_el g35) e38 gw_167 dX7_init_33 ?_
  refine ev_aload_n (pc := 36) (i := 0) rfl rfl rfl dX7_init_36 ?_
  refine ev_bipush (pc := 37) (v := 7) (by decide) dX7_init_37 ?_
  obtain ⟨g40, h41⟩ := qk_el h39; clear h39
  obtain ⟨b42, e43, h44⟩ := qv_el h41; clear h41
  obtain ⟨S45, e46, h47⟩ := qv_el h44; clear h44
  refine yv_newa (pc := 39) (k := 3) (j := 1035) (kd := 11) (N := 7) g40 (by simp) e43 e46 gw_193 (by decide) (by decide) (by decide) dX7_init_39 ?_
  obtain ⟨S48, e49, h50⟩ := qv_el h47; clear h47
  refine yv_putPF (pc := 41) fn_503 rfl rfl (is_nK (is_sP (isb_el g35) e38) e46) e49 gw_168 dX7_init_41 ?_
  refine ev_aload_n (pc := 44) (i := 0) rfl rfl rfl dX7_init_44 ?_
  refine ev_bipush (pc := 45) (v := 8) (by decide) dX7_init_45 ?_
  obtain ⟨g51, h52⟩ := qk_el h50; clear h50
  obtain ⟨b53, e54, h55⟩ := qv_el h52; clear h52
  obtain ⟨S56, e57, h58⟩ := qv_el h55; clear h55
  refine yv_newa (pc := 47) (k := 2) (j := 1027) (kd := 11) (N := 8) g51 (by simp) e54 e57 gw_193 (by decide) (by decide) (by decide) dX7_init_47 ?_
  obtain ⟨S59, e60, h61⟩ := qv_el h58; clear h58
  refine yv_putPF (pc := 49) fn_504 rfl rfl (is_nK (is_sP (is_nK (is_sP (isb_el g35) e38) e46) e49) e57) e60 gw_169 dX7_init_49 ?_
  refine ev_aload_n (pc := 52) (i := 0) rfl rfl rfl dX7_init_52 ?_
  refine ev_iconst (pc := 53) (v := 3) (by decide) dX7_init_53 ?_
  obtain ⟨g62, h63⟩ := qk_el h61; clear h61
  obtain ⟨b64, e65, h66⟩ := qv_el h63; clear h63
  obtain ⟨S67, e68, h69⟩ := qv_el h66; clear h66
  refine yv_newa (pc := 54) (k := 1) (j := 1024) (kd := 11) (N := 3) g62 (by simp) e65 e68 gw_193 (by decide) (by decide) (by decide) dX7_init_54 ?_
  obtain ⟨S70, e71, h72⟩ := qv_el h69; clear h69
  refine yv_putPF (pc := 56) fn_505 rfl rfl (is_nK (is_sP (is_nK (is_sP (is_nK (is_sP (isb_el g35) e38) e46) e49) e57) e60) e68) e71 gw_170 dX7_init_56 ?_
  refine ev_aload_n (pc := 59) (i := 0) rfl rfl rfl dX7_init_59 ?_
  refine ev_iconst (pc := 60) (v := 0) (by decide) dX7_init_60 ?_
  obtain ⟨S73, e74, h75⟩ := qv_el h72; clear h72
  refine yv_putI (pc := 61) fn_506 ⟨rfl, rfl⟩ (is_sP (is_nK (is_sP (is_nK (is_sP (is_nK (is_sP (isb_el g35) e38) e46) e49) e57) e60) e68) e71) e74 gw_171 dX7_init_61 ?_
  refine ev_aload_n (pc := 64) (i := 0) rfl rfl rfl dX7_init_64 ?_
  refine ev_sipush (pc := 65) (v := 1024) (by decide) dX7_init_65 ?_
  obtain ⟨g76, h77⟩ := qk_el h75; clear h75
  obtain ⟨b78, e79, h80⟩ := qv_el h77; clear h77
  obtain ⟨S81, e82, h83⟩ := qv_el h80; clear h80
  refine yv_newa (pc := 68) (k := 0) (j := 0) (kd := 12) (N := 1024) g76 (by simp) e79 e82 gw_89 (by decide) (by decide) (by decide) dX7_init_68 ?_
  obtain ⟨S84, e85, h86⟩ := qv_el h83; clear h83
  refine yv_putPF (pc := 70) fn_507 rfl rfl (is_nK (is_sI (is_sP (is_nK (is_sP (is_nK (is_sP (is_nK (is_sP (isb_el g35) e38) e46) e49) e57) e60) e68) e71) e74) e82) e85 gw_172 dX7_init_70 ?_
  refine ev_aload_n (pc := 73) (i := 0) rfl rfl rfl dX7_init_73 ?_
  refine ev_lconst (pc := 74) (v := 0) (by decide) dX7_init_74 ?_
  obtain ⟨S87, e88, h89⟩ := qv_el h86; clear h86
  refine yv_putJ (pc := 75) fn_508 (is_sP (is_nK (is_sI (is_sP (is_nK (is_sP (is_nK (is_sP (is_nK (is_sP (isb_el g35) e38) e46) e49) e57) e60) e68) e71) e74) e82) e85) e88 gw_173 dX7_init_75 ?_
  exact ev_return (pc := 78) rfl (by cases h89; rfl) dX7_init_78
theorem dX0_init_0 : decode cX0_init 0 = .ok (.aload_n 0, 1) := by decide +kernel
theorem dX0_init_1 : decode cX0_init 1 = .ok (.invokespecial 3, 3) := by decide +kernel
theorem dX0_init_4 : decode cX0_init 4 = .ok (.aload_n 0, 1) := by decide +kernel
theorem dX0_init_5 : decode cX0_init 5 = .ok (.iconst 0, 1) := by decide +kernel
theorem dX0_init_6 : decode cX0_init 6 = .ok (.putfield 9, 3) := by decide +kernel
theorem dX0_init_9 : decode cX0_init 9 = .ok (.aload_n 0, 1) := by decide +kernel
theorem dX0_init_10 : decode cX0_init 10 = .ok (.lconst 0, 1) := by decide +kernel
theorem dX0_init_11 : decode cX0_init 11 = .ok (.putfield 15, 3) := by decide +kernel
theorem dX0_init_14 : decode cX0_init 14 = .ok (.aload_n 0, 1) := by decide +kernel
theorem dX0_init_15 : decode cX0_init 15 = .ok (.lconst 0, 1) := by decide +kernel
theorem dX0_init_16 : decode cX0_init 16 = .ok (.putfield 19, 3) := by decide +kernel
theorem dX0_init_19 : decode cX0_init 19 = .ok (.aload_n 0, 1) := by decide +kernel
theorem dX0_init_20 : decode cX0_init 20 = .ok (.lconst 0, 1) := by decide +kernel
theorem dX0_init_21 : decode cX0_init 21 = .ok (.putfield 22, 3) := by decide +kernel
theorem dX0_init_24 : decode cX0_init 24 = .ok (.aload_n 0, 1) := by decide +kernel
theorem dX0_init_25 : decode cX0_init 25 = .ok (.lconst 0, 1) := by decide +kernel
theorem dX0_init_26 : decode cX0_init 26 = .ok (.putfield 25, 3) := by decide +kernel
theorem dX0_init_29 : decode cX0_init 29 = .ok (.aload_n 0, 1) := by decide +kernel
theorem dX0_init_30 : decode cX0_init 30 = .ok (.iconst 0, 1) := by decide +kernel
theorem dX0_init_31 : decode cX0_init 31 = .ok (.putfield 28, 3) := by decide +kernel
theorem dX0_init_34 : decode cX0_init 34 = .ok (.aload_n 0, 1) := by decide +kernel
theorem dX0_init_35 : decode cX0_init 35 = .ok (.iconst 0, 1) := by decide +kernel
theorem dX0_init_36 : decode cX0_init 36 = .ok (.putfield 31, 3) := by decide +kernel
theorem dX0_init_39 : decode cX0_init 39 = .ok (.aload_n 0, 1) := by decide +kernel
theorem dX0_init_40 : decode cX0_init 40 = .ok (.iconst 0, 1) := by decide +kernel
theorem dX0_init_41 : decode cX0_init 41 = .ok (.putfield 35, 3) := by decide +kernel
theorem dX0_init_44 : decode cX0_init 44 = .ok (.aload_n 0, 1) := by decide +kernel
theorem dX0_init_45 : decode cX0_init 45 = .ok (.iconst 0, 1) := by decide +kernel
theorem dX0_init_46 : decode cX0_init 46 = .ok (.putfield 38, 3) := by decide +kernel
theorem dX0_init_49 : decode cX0_init 49 = .ok (.return_, 1) := by decide +kernel
def f_X0_init (F : Nat) (S : gk_S) (a : Nat) : Option (Unit × gk_S) := qk (isb S a 0) <| qv (sI S 0 a 0) fun S3 => qv (sJ S3 1 a 0) fun S6 => qv (sJ S6 2 a 0) fun S9 => qv (sJ S9 3 a 0) fun S12 => qv (sJ S12 4 a 0) fun S15 => qv (sI S15 5 a 0) fun S18 => qv (sI S18 6 a 0) fun S21 => qv (sI S21 7 a 0) fun S24 => qv (sI S24 8 a 0) fun S27 => some ((), S27)
theorem e_X0_init {X : gk_X} {F : Nat} {S : gk_S} {a : Nat} {r : (Unit × gk_S)} (h0 : f_X0_init F S a = some r) : EvM X m_X0_init 1 0 0 [.ref a] S (qRU r) := by
  unfold f_X0_init at h0
  refine ev_method (by decide +kernel) rfl rfl (Nat.le_of_ble_eq_true rfl) ?_
  show EvW X m_X0_init 1 0 0 0 [some (.ref a)] [] S _
  refine ev_aload_n (pc := 0) (i := 0) rfl rfl rfl dX0_init_0 ?_
  refine ev_objInit (pc := 1) gw_206 gw_31 gw_32 (by decide) (by simp) (by decide) dX0_init_1 ?_
  refine ev_aload_n (pc := 4) (i := 0) rfl rfl rfl dX0_init_4 ?_
  refine ev_iconst (pc := 5) (v := 0) (by decide) dX0_init_5 ?_
  obtain ⟨g1, h2⟩ := qk_el h0; clear h0
  obtain ⟨S3, e4, h5⟩ := qv_el h2; clear h2
  refine yv_putI (pc := 6) fn_0 ⟨rfl, rfl⟩ (isb_el g1) e4 gw_207 dX0_init_6 ?_
  refine ev_aload_n (pc := 9) (i := 0) rfl rfl rfl dX0_init_9 ?_
  refine ev_lconst (pc := 10) (v := 0) (by decide) dX0_init_10 ?_
  obtain ⟨S6, e7, h8⟩ := qv_el h5; clear h5
  refine yv_putJ (pc := 11) fn_1 (is_sI (isb_el g1) e4) e7 gw_208 dX0_init_11 ?_
  refine ev_aload_n (pc := 14) (i := 0) rfl rfl rfl dX0_init_14 ?_
  refine ev_lconst (pc := 15) (v := 0) (by decide) dX0_init_15 ?_
  obtain ⟨S9, e10, h11⟩ := qv_el h8; clear h8
  refine yv_putJ (pc := 16) fn_2 (is_sJ (is_sI (isb_el g1) e4) e7) e10 gw_209 dX0_init_16 ?_
  refine ev_aload_n (pc := 19) (i := 0) rfl rfl rfl dX0_init_19 ?_
  refine ev_lconst (pc := 20) (v := 0) (by decide) dX0_init_20 ?_
  obtain ⟨S12, e13, h14⟩ := qv_el h11; clear h11
  refine yv_putJ (pc := 21) fn_3 (is_sJ (is_sJ (is_sI (isb_el g1) e4) e7) e10) e13 gw_210 dX0_init_21 ?_
  refine ev_aload_n (pc := 24) (i := 0) rfl rfl rfl dX0_init_24 ?_
  refine ev_lconst (pc := 25) (v := 0) (by decide) dX0_init_25 ?_
  obtain ⟨S15, e16, h17⟩ := qv_el h14; clear h14
  refine yv_putJ (pc := 26) fn_4 (is_sJ (is_sJ (is_sJ (is_sI (isb_el g1) e4) e7) e10) e13) e16 gw_211 dX0_init_26 ?_
  refine ev_aload_n (pc := 29) (i := 0) rfl rfl rfl dX0_init_29 ?_
  refine ev_iconst (pc := 30) (v := 0) (by decide) dX0_init_30 ?_
  obtain ⟨S18, e19, h20⟩ := qv_el h17; clear h17
  refine yv_putI (pc := 31) fn_5 ⟨rfl, rfl⟩ (is_sJ (is_sJ (is_sJ (is_sJ (is_sI (isb_el g1) e4) e7) e10) e13) e16) e19 gw_212 dX0_init_31 ?_
  refine ev_aload_n (pc := 34) (i := 0) rfl rfl rfl dX0_init_34 ?_
  refine ev_iconst (pc := 35) (v := 0) (by decide) dX0_init_35 ?_
  obtain ⟨S21, e22, h23⟩ := qv_el h20; clear h20
  refine yv_putI (pc := 36) fn_6 ⟨rfl, rfl⟩ (is_sI (is_sJ (is_sJ (is_sJ (is_sJ (is_sI (isb_el g1) e4) e7) e10) e13) e16) e19) e22 gw_213 dX0_init_36 ?_
  refine ev_aload_n (pc := 39) (i := 0) rfl rfl rfl dX0_init_39 ?_
  refine ev_iconst (pc := 40) (v := 0) (by decide) dX0_init_40 ?_
  obtain ⟨S24, e25, h26⟩ := qv_el h23; clear h23
  refine yv_putI (pc := 41) fn_7 ⟨rfl, rfl⟩ (is_sI (is_sI (is_sJ (is_sJ (is_sJ (is_sJ (is_sI (isb_el g1) e4) e7) e10) e13) e16) e19) e22) e25 gw_215 dX0_init_41 ?_
  refine ev_aload_n (pc := 44) (i := 0) rfl rfl rfl dX0_init_44 ?_
  refine ev_iconst (pc := 45) (v := 0) (by decide) dX0_init_45 ?_
  obtain ⟨S27, e28, h29⟩ := qv_el h26; clear h26
  refine yv_putI (pc := 46) fn_8 ⟨rfl, rfl⟩ (is_sI (is_sI (is_sI (is_sJ (is_sJ (is_sJ (is_sJ (is_sI (isb_el g1) e4) e7) e10) e13) e16) e19) e22) e25) e28 gw_216 dX0_init_46 ?_
  exact ev_return (pc := 49) rfl (by cases h29; rfl) dX0_init_49
theorem dX8_init_0 : decode cX8_init 0 = .ok (.aload_n 0, 1) := by decide +kernel
theorem dX8_init_1 : decode cX8_init 1 = .ok (.invokespecial 3, 3) := by decide +kernel
theorem dX8_init_4 : decode cX8_init 4 = .ok (.aload_n 0, 1) := by decide +kernel
theorem dX8_init_5 : decode cX8_init 5 = .ok (.bipush 64, 2) := by decide +kernel
theorem dX8_init_7 : decode cX8_init 7 = .ok (.anewarray 11, 3) := by decide +kernel
theorem dX8_init_10 : decode cX8_init 10 = .ok (.putfield 13, 3) := by decide +kernel
theorem dX8_init_13 : decode cX8_init 13 = .ok (.iconst 0, 1) := by decide +kernel
theorem dX8_init_14 : decode cX8_init 14 = .ok (.istore_n 1, 1) := by decide +kernel
theorem dX8_init_15 : decode cX8_init 15 = .ok (.iload_n 1, 1) := by decide +kernel
theorem dX8_init_16 : decode cX8_init 16 = .ok (.bipush 64, 2) := by decide +kernel
theorem dX8_init_18 : decode cX8_init 18 = .ok (.if_icmp .ge 22, 3) := by decide +kernel
theorem dX8_init_21 : decode cX8_init 21 = .ok (.aload_n 0, 1) := by decide +kernel
theorem dX8_init_22 : decode cX8_init 22 = .ok (.getfield 13, 3) := by decide +kernel
theorem dX8_init_25 : decode cX8_init 25 = .ok (.iload_n 1, 1) := by decide +kernel
theorem dX8_init_26 : decode cX8_init 26 = .ok (.new 11, 3) := by decide +kernel
theorem dX8_init_29 : decode cX8_init 29 = .ok (.dup, 1) := by decide +kernel
theorem dX8_init_30 : decode cX8_init 30 = .ok (.invokespecial 17, 3) := by decide +kernel
theorem dX8_init_33 : decode cX8_init 33 = .ok (.aastore, 1) := by decide +kernel
theorem dX8_init_34 : decode cX8_init 34 = .ok (.iinc 1 1, 3) := by decide +kernel
theorem dX8_init_37 : decode cX8_init 37 = .ok (.goto (-22), 3) := by decide +kernel
theorem dX8_init_40 : decode cX8_init 40 = .ok (.aload_n 0, 1) := by decide +kernel
theorem dX8_init_41 : decode cX8_init 41 = .ok (.iconst 0, 1) := by decide +kernel
theorem dX8_init_42 : decode cX8_init 42 = .ok (.putfield 18, 3) := by decide +kernel
theorem dX8_init_45 : decode cX8_init 45 = .ok (.aload_n 0, 1) := by decide +kernel
theorem dX8_init_46 : decode cX8_init 46 = .ok (.bipush 8, 2) := by decide +kernel
theorem dX8_init_48 : decode cX8_init 48 = .ok (.putfield 22, 3) := by decide +kernel
theorem dX8_init_51 : decode cX8_init 51 = .ok (.aload_n 0, 1) := by decide +kernel
theorem dX8_init_52 : decode cX8_init 52 = .ok (.iconst 0, 1) := by decide +kernel
theorem dX8_init_53 : decode cX8_init 53 = .ok (.putfield 25, 3) := by decide +kernel
theorem dX8_init_56 : decode cX8_init 56 = .ok (.aload_n 0, 1) := by decide +kernel
theorem dX8_init_57 : decode cX8_init 57 = .ok (.iconst 0, 1) := by decide +kernel
theorem dX8_init_58 : decode cX8_init 58 = .ok (.putfield 28, 3) := by decide +kernel
theorem dX8_init_61 : decode cX8_init 61 = .ok (.aload_n 0, 1) := by decide +kernel
theorem dX8_init_62 : decode cX8_init 62 = .ok (.iconst 0, 1) := by decide +kernel
theorem dX8_init_63 : decode cX8_init 63 = .ok (.putfield 31, 3) := by decide +kernel
theorem dX8_init_66 : decode cX8_init 66 = .ok (.return_, 1) := by decide +kernel
def f_X8_init (F : Nat) (S : gk_S) (a : Nat) : Option (Unit × gk_S) := qk (tgb S) <| qv (gk_n S) fun b3 => qv (nK S 14 64) fun S6 => qk (isb S6 a 6) <| qv (sP S6 600 a (some b3)) fun S11 => qP (gP S11 600 a) fun b15 => qk (tgb S11) <| qv (gk_n S11) fun b20 => qv (nK S11 0 0) fun S23 => qc (f_X0_init F S23 b20) fun x26 S27 => qk (isb S27 b15 14) <| qk (isb S27 b20 0) <| qk (inb 0 (gL S27 b15)) <| qv (wP S27 b15 0 b20) fun S36 => qk (isb S36 a 6) <| qP (gP S36 600 a) fun b42 => qk (tgb S36) <| qv (gk_n S36) fun b47 => qv (nK S36 0 0) fun S50 => qc (f_X0_init F S50 b47) fun x53 S54 => qk (isb S54 b42 14) <| qk (isb S54 b47 0) <| qk (inb 1 (gL S54 b42)) <| qv (wP S54 b42 1 b47) fun S63 => qk (isb S63 a 6) <| qP (gP S63 600 a) fun b69 => qk (tgb S63) <| qv (gk_n S63) fun b74 => qv (nK S63 0 0) fun S77 => qc (f_X0_init F S77 b74) fun x80 S81 => qk (isb S81 b69 14) <| qk (isb S81 b74 0) <| qk (inb 2 (gL S81 b69)) <| qv (wP S81 b69 2 b74) fun S90 => qk (isb S90 a 6) <| qP (gP S90 600 a) fun b96 => qk (tgb S90) <| qv (gk_n S90) fun b101 => qv (nK S90 0 0) fun S104 => qc (f_X0_init F S104 b101) fun x107 S108 => qk (isb S108 b96 14) <| qk (isb S108 b101 0) <| qk (inb 3 (gL S108 b96)) <| qv (wP S108 b96 3 b101) fun S117 => qk (isb S117 a 6) <| qP (gP S117 600 a) fun b123 => qk (tgb S117) <| qv (gk_n S117) fun b128 => qv (nK S117 0 0) fun S131 => qc (f_X0_init F S131 b128) fun x134 S135 => qk (isb S135 b123 14) <| qk (isb S135 b128 0) <| qk (inb 4 (gL S135 b123)) <| qv (wP S135 b123 4 b128) fun S144 => qk (isb S144 a 6) <| qP (gP S144 600 a) fun b150 => qk (tgb S144) <| qv (gk_n S144) fun b155 => qv (nK S144 0 0) fun S158 => qc (f_X0_init F S158 b155) fun x161 S162 => qk (isb S162 b150 14) <| qk (isb S162 b155 0) <| qk (inb 5 (gL S162 b150)) <| qv (wP S162 b150 5 b155) fun S171 => qk (isb S171 a 6) <| qP (gP S171 600 a) fun b177 => qk (tgb S171) <| qv (gk_n S171) fun b182 => qv (nK S171 0 0) fun S185 => qc (f_X0_init F S185 b182) fun x188 S189 => qk (isb S189 b177 14) <| qk (isb S189 b182 0) <| qk (inb 6 (gL S189 b177)) <| qv (wP S189 b177 6 b182) fun S198 => qk (isb S198 a 6) <| qP (gP S198 600 a) fun b204 => qk (tgb S198) <| qv (gk_n S198) fun b209 => qv (nK S198 0 0) fun S212 => qc (f_X0_init F S212 b209) fun x215 S216 => qk (isb S216 b204 14) <| qk (isb S216 b209 0) <| qk (inb 7 (gL S216 b204)) <| qv (wP S216 b204 7 b209) fun S225 => qk (isb S225 a 6) <| qP (gP S225 600 a) fun b231 => qk (tgb S225) <| qv (gk_n S225) fun b236 => qv (nK S225 0 0) fun S239 => qc (f_X0_init F S239 b236) fun x242 S243 => qk (isb S243 b231 14) <| qk (isb S243 b236 0) <| qk (inb 8 (gL S243 b231)) <| qv (wP S243 b231 8 b236) fun S252 => qk (isb S252 a 6) <| qP (gP S252 600 a) fun b258 => qk (tgb S252) <| qv (gk_n S252) fun b263 => qv (nK S252 0 0) fun S266 => qc (f_X0_init F S266 b263) fun x269 S270 => qk (isb S270 b258 14) <| qk (isb S270 b263 0) <| qk (inb 9 (gL S270 b258)) <| qv (wP S270 b258 9 b263) fun S279 => qk (isb S279 a 6) <| qP (gP S279 600 a) fun b285 => qk (tgb S279) <| qv (gk_n S279) fun b290 => qv (nK S279 0 0) fun S293 => qc (f_X0_init F S293 b290) fun x296 S297 => qk (isb S297 b285 14) <| qk (isb S297 b290 0) <| qk (inb 10 (gL S297 b285)) <| qv (wP S297 b285 10 b290) fun S306 => qk (isb S306 a 6) <| qP (gP S306 600 a) fun b312 => qk (tgb S306) <| qv (gk_n S306) fun b317 => qv (nK S306 0 0) fun S320 => qc (f_X0_init F S320 b317) fun x323 S324 => qk (isb S324 b312 14) <| qk (isb S324 b317 0) <| qk (inb 11 (gL S324 b312)) <| qv (wP S324 b312 11 b317) fun S333 => qk (isb S333 a 6) <| qP (gP S333 600 a) fun b339 => qk (tgb S333) <| qv (gk_n S333) fun b344 => qv (nK S333 0 0) fun S347 => qc (f_X0_init F S347 b344) fun x350 S351 => qk (isb S351 b339 14) <| qk (isb S351 b344 0) <| qk (inb 12 (gL S351 b339)) <| qv (wP S351 b339 12 b344) fun S360 => qk (isb S360 a 6) <| qP (gP S360 600 a) fun b366 => qk (tgb S360) <| qv (gk_n S360) fun b371 => qv (nK S360 0 0) fun S374 => qc (f_X0_init F S374 b371) fun x377 S378 => qk (isb S378 b366 14) <| qk (isb S378 b371 0) <| qk (inb 13 (gL S378 b366)) <| qv (wP S378 b366 13 b371) fun S387 => qk (isb S387 a 6) <| qP (gP S387 600 a) fun b393 => qk (tgb S387) <| qv (gk_n S387) fun b398 => qv (nK S387 0 0) fun S401 => qc (f_X0_init F S401 b398) fun x404 S405 => qk (isb S405 b393 14) <| qk (isb S405 b398 0) <| qk (inb 14 (gL S405 b393)) <| qv (wP S405 b393 14 b398) fun S414 => qk (isb S414 a 6) <| qP (gP S414 600 a) fun b420 => qk (tgb S414) <| qv (gk_n S414) fun b425 => qv (nK S414 0 0) fun S428 => qc (f_X0_init F S428 b425) fun x431 S432 => qk (isb S432 b420 14) <| qk (isb S432 b425 0) <| qk (inb 15 (gL S432 b420)) <| qv (wP S432 b420 15 b425) fun S441 => qk (isb S441 a 6) <| qP (gP S441 600 a) fun b447 => qk (tgb S441) <| qv (gk_n S441) fun b452 => qv (nK S441 0 0) fun S455 => qc (f_X0_init F S455 b452) fun x458 S459 => qk (isb S459 b447 14) <| qk (isb S459 b452 0) <| qk (inb 16 (gL S459 b447)) <| qv (wP S459 b447 16 b452) fun S468 => qk (isb S468 a 6) <| qP (gP S468 600 a) fun b474 => qk (tgb S468) <| qv (gk_n S468) fun b479 => qv (nK S468 0 0) fun S482 => qc (f_X0_init F S482 b479) fun x485 S486 => qk (isb S486 b474 14) <| qk (isb S486 b479 0) <| qk (inb 17 (gL S486 b474)) <| qv (wP S486 b474 17 b479) fun S495 => qk (isb S495 a 6) <| qP (gP S495 600 a) fun b501 => qk (tgb S495) <| qv (gk_n S495) fun b506 => qv (nK S495 0 0) fun S509 => qc (f_X0_init F S509 b506) fun x512 S513 => qk (isb S513 b501 14) <| qk (isb S513 b506 0) <| qk (inb 18 (gL S513 b501)) <| qv (wP S513 b501 18 b506) fun S522 => qk (isb S522 a 6) <| qP (gP S522 600 a) fun b528 => qk (tgb S522) <| qv (gk_n S522) fun b533 => qv (nK S522 0 0) fun S536 => qc (f_X0_init F S536 b533) fun x539 S540 => qk (isb S540 b528 14) <| qk (isb S540 b533 0) <| qk (inb 19 (gL S540 b528)) <| qv (wP S540 b528 19 b533) fun S549 => qk (isb S549 a 6) <| qP (gP S549 600 a) fun b555 => qk (tgb S549) <| qv (gk_n S549) fun b560 => qv (nK S549 0 0) fun S563 => qc (f_X0_init F S563 b560) fun x566 S567 => qk (isb S567 b555 14) <| qk (isb S567 b560 0) <| qk (inb 20 (gL S567 b555)) <| qv (wP S567 b555 20 b560) fun S576 => qk (isb S576 a 6) <| qP (gP S576 600 a) fun b582 => qk (tgb S576) <| qv (gk_n S576) fun b587 => qv (nK S576 0 0) fun S590 => qc (f_X0_init F S590 b587) fun x593 S594 => qk (isb S594 b582 14) <| qk (isb S594 b587 0) <| qk (inb 21 (gL S594 b582)) <| qv (wP S594 b582 21 b587) fun S603 => qk (isb S603 a 6) <| qP (gP S603 600 a) fun b609 => qk (tgb S603) <| qv (gk_n S603) fun b614 => qv (nK S603 0 0) fun S617 => qc (f_X0_init F S617 b614) fun x620 S621 => qk (isb S621 b609 14) <| qk (isb S621 b614 0) <| qk (inb 22 (gL S621 b609)) <| qv (wP S621 b609 22 b614) fun S630 => qk (isb S630 a 6) <| qP (gP S630 600 a) fun b636 => qk (tgb S630) <| qv (gk_n S630) fun b641 => qv (nK S630 0 0) fun S644 => qc (f_X0_init F S644 b641) fun x647 S648 => qk (isb S648 b636 14) <| qk (isb S648 b641 0) <| qk (inb 23 (gL S648 b636)) <| qv (wP S648 b636 23 b641) fun S657 => qk (isb S657 a 6) <| qP (gP S657 600 a) fun b663 => qk (tgb S657) <| qv (gk_n S657) fun b668 => qv (nK S657 0 0) fun S671 => qc (f_X0_init F S671 b668) fun x674 S675 => qk (isb S675 b663 14) <| qk (isb S675 b668 0) <| qk (inb 24 (gL S675 b663)) <| qv (wP S675 b663 24 b668) fun S684 => qk (isb S684 a 6) <| qP (gP S684 600 a) fun b690 => qk (tgb S684) <| qv (gk_n S684) fun b695 => qv (nK S684 0 0) fun S698 => qc (f_X0_init F S698 b695) fun x701 S702 => qk (isb S702 b690 14) <| qk (isb S702 b695 0) <| qk (inb 25 (gL S702 b690)) <| qv (wP S702 b690 25 b695) fun S711 => qk (isb S711 a 6) <| qP (gP S711 600 a) fun b717 => qk (tgb S711) <| qv (gk_n S711) fun b722 => qv (nK S711 0 0) fun S725 => qc (f_X0_init F S725 b722) fun x728 S729 => qk (isb S729 b717 14) <| qk (isb S729 b722 0) <| qk (inb 26 (gL S729 b717)) <| qv (wP S729 b717 26 b722) fun S738 => qk (isb S738 a 6) <| qP (gP S738 600 a) fun b744 => qk (tgb S738) <| qv (gk_n S738) fun b749 => qv (nK S738 0 0) fun S752 => qc (f_X0_init F S752 b749) fun x755 S756 => qk (isb S756 b744 14) <| qk (isb S756 b749 0) <| qk (inb 27 (gL S756 b744)) <| qv (wP S756 b744 27 b749) fun S765 => qk (isb S765 a 6) <| qP (gP S765 600 a) fun b771 => qk (tgb S765) <| qv (gk_n S765) fun b776 => qv (nK S765 0 0) fun S779 => qc (f_X0_init F S779 b776) fun x782 S783 => qk (isb S783 b771 14) <| qk (isb S783 b776 0) <| qk (inb 28 (gL S783 b771)) <| qv (wP S783 b771 28 b776) fun S792 => qk (isb S792 a 6) <| qP (gP S792 600 a) fun b798 => qk (tgb S792) <| qv (gk_n S792) fun b803 => qv (nK S792 0 0) fun S806 => qc (f_X0_init F S806 b803) fun x809 S810 => qk (isb S810 b798 14) <| qk (isb S810 b803 0) <| qk (inb 29 (gL S810 b798)) <| qv (wP S810 b798 29 b803) fun S819 => qk (isb S819 a 6) <| qP (gP S819 600 a) fun b825 => qk (tgb S819) <| qv (gk_n S819) fun b830 => qv (nK S819 0 0) fun S833 => qc (f_X0_init F S833 b830) fun x836 S837 => qk (isb S837 b825 14) <| qk (isb S837 b830 0) <| qk (inb 30 (gL S837 b825)) <| qv (wP S837 b825 30 b830) fun S846 => qk (isb S846 a 6) <| qP (gP S846 600 a) fun b852 => qk (tgb S846) <| qv (gk_n S846) fun b857 => qv (nK S846 0 0) fun S860 => qc (f_X0_init F S860 b857) fun x863 S864 => qk (isb S864 b852 14) <| qk (isb S864 b857 0) <| qk (inb 31 (gL S864 b852)) <| qv (wP S864 b852 31 b857) fun S873 => qk (isb S873 a 6) <| qP (gP S873 600 a) fun b879 => qk (tgb S873) <| qv (gk_n S873) fun b884 => qv (nK S873 0 0) fun S887 => qc (f_X0_init F S887 b884) fun x890 S891 => qk (isb S891 b879 14) <| qk (isb S891 b884 0) <| qk (inb 32 (gL S891 b879)) <| qv (wP S891 b879 32 b884) fun S900 => qk (isb S900 a 6) <| qP (gP S900 600 a) fun b906 => qk (tgb S900) <| qv (gk_n S900) fun b911 => qv (nK S900 0 0) fun S914 => qc (f_X0_init F S914 b911) fun x917 S918 => qk (isb S918 b906 14) <| qk (isb S918 b911 0) <| qk (inb 33 (gL S918 b906)) <| qv (wP S918 b906 33 b911) fun S927 => qk (isb S927 a 6) <| qP (gP S927 600 a) fun b933 => qk (tgb S927) <| qv (gk_n S927) fun b938 => qv (nK S927 0 0) fun S941 => qc (f_X0_init F S941 b938) fun x944 S945 => qk (isb S945 b933 14) <| qk (isb S945 b938 0) <| qk (inb 34 (gL S945 b933)) <| qv (wP S945 b933 34 b938) fun S954 => qk (isb S954 a 6) <| qP (gP S954 600 a) fun b960 => qk (tgb S954) <| qv (gk_n S954) fun b965 => qv (nK S954 0 0) fun S968 => qc (f_X0_init F S968 b965) fun x971 S972 => qk (isb S972 b960 14) <| qk (isb S972 b965 0) <| qk (inb 35 (gL S972 b960)) <| qv (wP S972 b960 35 b965) fun S981 => qk (isb S981 a 6) <| qP (gP S981 600 a) fun b987 => qk (tgb S981) <| qv (gk_n S981) fun b992 => qv (nK S981 0 0) fun S995 => qc (f_X0_init F S995 b992) fun x998 S999 => qk (isb S999 b987 14) <| qk (isb S999 b992 0) <| qk (inb 36 (gL S999 b987)) <| qv (wP S999 b987 36 b992) fun S1008 => qk (isb S1008 a 6) <| qP (gP S1008 600 a) fun b1014 => qk (tgb S1008) <| qv (gk_n S1008) fun b1019 => qv (nK S1008 0 0) fun S1022 => qc (f_X0_init F S1022 b1019) fun x1025 S1026 => qk (isb S1026 b1014 14) <| qk (isb S1026 b1019 0) <| qk (inb 37 (gL S1026 b1014)) <| qv (wP S1026 b1014 37 b1019) fun S1035 => qk (isb S1035 a 6) <| qP (gP S1035 600 a) fun b1041 => qk (tgb S1035) <| qv (gk_n S1035) fun b1046 => qv (nK S1035 0 0) fun S1049 => qc (f_X0_init F S1049 b1046) fun x1052 S1053 => qk (isb S1053 b1041 14) <| qk (isb S1053 b1046 0) <| qk (inb 38 (gL S1053 b1041)) <| qv (wP S1053 b1041 38 b1046) fun S1062 => qk (isb S1062 a 6) <| qP (gP S1062 600 a) fun b1068 => qk (tgb S1062) <| qv (gk_n S1062) fun b1073 => qv (nK S1062 0 0) fun S1076 => qc (f_X0_init F S1076 b1073) fun x1079 S1080 => qk (isb S1080 b1068 14) <| qk (isb S1080 b1073 0) <| qk (inb 39 (gL S1080 b1068)) <| qv (wP S1080 b1068 39 b1073) fun S1089 => qk (isb S1089 a 6) <| qP (gP S1089 600 a) fun b1095 => qk (tgb S1089) <| qv (gk_n S1089) fun b1100 => qv (nK S1089 0 0) fun S1103 => qc (f_X0_init F S1103 b1100) fun x1106 S1107 => qk (isb S1107 b1095 14) <| qk (isb S1107 b1100 0) <| qk (inb 40 (gL S1107 b1095)) <| qv (wP S1107 b1095 40 b1100) fun S1116 => qk (isb S1116 a 6) <| qP (gP S1116 600 a) fun b1122 => qk (tgb S1116) <| qv (gk_n S1116) fun b1127 => qv (nK S1116 0 0) fun S1130 => qc (f_X0_init F S1130 b1127) fun x1133 S1134 => qk (isb S1134 b1122 14) <| qk (isb S1134 b1127 0) <| qk (inb 41 (gL S1134 b1122)) <| qv (wP S1134 b1122 41 b1127) fun S1143 => qk (isb S1143 a 6) <| qP (gP S1143 600 a) fun b1149 => qk (tgb S1143) <| qv (gk_n S1143) fun b1154 => qv (nK S1143 0 0) fun S1157 => qc (f_X0_init F S1157 b1154) fun x1160 S1161 => qk (isb S1161 b1149 14) <| qk (isb S1161 b1154 0) <| qk (inb 42 (gL S1161 b1149)) <| qv (wP S1161 b1149 42 b1154) fun S1170 => qk (isb S1170 a 6) <| qP (gP S1170 600 a) fun b1176 => qk (tgb S1170) <| qv (gk_n S1170) fun b1181 => qv (nK S1170 0 0) fun S1184 => qc (f_X0_init F S1184 b1181) fun x1187 S1188 => qk (isb S1188 b1176 14) <| qk (isb S1188 b1181 0) <| qk (inb 43 (gL S1188 b1176)) <| qv (wP S1188 b1176 43 b1181) fun S1197 => qk (isb S1197 a 6) <| qP (gP S1197 600 a) fun b1203 => qk (tgb S1197) <| qv (gk_n S1197) fun b1208 => qv (nK S1197 0 0) fun S1211 => qc (f_X0_init F S1211 b1208) fun x1214 S1215 => qk (isb S1215 b1203 14) <| qk (isb S1215 b1208 0) <| qk (inb 44 (gL S1215 b1203)) <| qv (wP S1215 b1203 44 b1208) fun S1224 => qk (isb S1224 a 6) <| qP (gP S1224 600 a) fun b1230 => qk (tgb S1224) <| qv (gk_n S1224) fun b1235 => qv (nK S1224 0 0) fun S1238 => qc (f_X0_init F S1238 b1235) fun x1241 S1242 => qk (isb S1242 b1230 14) <| qk (isb S1242 b1235 0) <| qk (inb 45 (gL S1242 b1230)) <| qv (wP S1242 b1230 45 b1235) fun S1251 => qk (isb S1251 a 6) <| qP (gP S1251 600 a) fun b1257 => qk (tgb S1251) <| qv (gk_n S1251) fun b1262 => qv (nK S1251 0 0) fun S1265 => qc (f_X0_init F S1265 b1262) fun x1268 S1269 => qk (isb S1269 b1257 14) <| qk (isb S1269 b1262 0) <| qk (inb 46 (gL S1269 b1257)) <| qv (wP S1269 b1257 46 b1262) fun S1278 => qk (isb S1278 a 6) <| qP (gP S1278 600 a) fun b1284 => qk (tgb S1278) <| qv (gk_n S1278) fun b1289 => qv (nK S1278 0 0) fun S1292 => qc (f_X0_init F S1292 b1289) fun x1295 S1296 => qk (isb S1296 b1284 14) <| qk (isb S1296 b1289 0) <| qk (inb 47 (gL S1296 b1284)) <| qv (wP S1296 b1284 47 b1289) fun S1305 => qk (isb S1305 a 6) <| qP (gP S1305 600 a) fun b1311 => qk (tgb S1305) <| qv (gk_n S1305) fun b1316 => qv (nK S1305 0 0) fun S1319 => qc (f_X0_init F S1319 b1316) fun x1322 S1323 => qk (isb S1323 b1311 14) <| qk (isb S1323 b1316 0) <| qk (inb 48 (gL S1323 b1311)) <| qv (wP S1323 b1311 48 b1316) fun S1332 => qk (isb S1332 a 6) <| qP (gP S1332 600 a) fun b1338 => qk (tgb S1332) <| qv (gk_n S1332) fun b1343 => qv (nK S1332 0 0) fun S1346 => qc (f_X0_init F S1346 b1343) fun x1349 S1350 => qk (isb S1350 b1338 14) <| qk (isb S1350 b1343 0) <| qk (inb 49 (gL S1350 b1338)) <| qv (wP S1350 b1338 49 b1343) fun S1359 => qk (isb S1359 a 6) <| qP (gP S1359 600 a) fun b1365 => qk (tgb S1359) <| qv (gk_n S1359) fun b1370 => qv (nK S1359 0 0) fun S1373 => qc (f_X0_init F S1373 b1370) fun x1376 S1377 => qk (isb S1377 b1365 14) <| qk (isb S1377 b1370 0) <| qk (inb 50 (gL S1377 b1365)) <| qv (wP S1377 b1365 50 b1370) fun S1386 => qk (isb S1386 a 6) <| qP (gP S1386 600 a) fun b1392 => qk (tgb S1386) <| qv (gk_n S1386) fun b1397 => qv (nK S1386 0 0) fun S1400 => qc (f_X0_init F S1400 b1397) fun x1403 S1404 => qk (isb S1404 b1392 14) <| qk (isb S1404 b1397 0) <| qk (inb 51 (gL S1404 b1392)) <| qv (wP S1404 b1392 51 b1397) fun S1413 => qk (isb S1413 a 6) <| qP (gP S1413 600 a) fun b1419 => qk (tgb S1413) <| qv (gk_n S1413) fun b1424 => qv (nK S1413 0 0) fun S1427 => qc (f_X0_init F S1427 b1424) fun x1430 S1431 => qk (isb S1431 b1419 14) <| qk (isb S1431 b1424 0) <| qk (inb 52 (gL S1431 b1419)) <| qv (wP S1431 b1419 52 b1424) fun S1440 => qk (isb S1440 a 6) <| qP (gP S1440 600 a) fun b1446 => qk (tgb S1440) <| qv (gk_n S1440) fun b1451 => qv (nK S1440 0 0) fun S1454 => qc (f_X0_init F S1454 b1451) fun x1457 S1458 => qk (isb S1458 b1446 14) <| qk (isb S1458 b1451 0) <| qk (inb 53 (gL S1458 b1446)) <| qv (wP S1458 b1446 53 b1451) fun S1467 => qk (isb S1467 a 6) <| qP (gP S1467 600 a) fun b1473 => qk (tgb S1467) <| qv (gk_n S1467) fun b1478 => qv (nK S1467 0 0) fun S1481 => qc (f_X0_init F S1481 b1478) fun x1484 S1485 => qk (isb S1485 b1473 14) <| qk (isb S1485 b1478 0) <| qk (inb 54 (gL S1485 b1473)) <| qv (wP S1485 b1473 54 b1478) fun S1494 => qk (isb S1494 a 6) <| qP (gP S1494 600 a) fun b1500 => qk (tgb S1494) <| qv (gk_n S1494) fun b1505 => qv (nK S1494 0 0) fun S1508 => qc (f_X0_init F S1508 b1505) fun x1511 S1512 => qk (isb S1512 b1500 14) <| qk (isb S1512 b1505 0) <| qk (inb 55 (gL S1512 b1500)) <| qv (wP S1512 b1500 55 b1505) fun S1521 => qk (isb S1521 a 6) <| qP (gP S1521 600 a) fun b1527 => qk (tgb S1521) <| qv (gk_n S1521) fun b1532 => qv (nK S1521 0 0) fun S1535 => qc (f_X0_init F S1535 b1532) fun x1538 S1539 => qk (isb S1539 b1527 14) <| qk (isb S1539 b1532 0) <| qk (inb 56 (gL S1539 b1527)) <| qv (wP S1539 b1527 56 b1532) fun S1548 => qk (isb S1548 a 6) <| qP (gP S1548 600 a) fun b1554 => qk (tgb S1548) <| qv (gk_n S1548) fun b1559 => qv (nK S1548 0 0) fun S1562 => qc (f_X0_init F S1562 b1559) fun x1565 S1566 => qk (isb S1566 b1554 14) <| qk (isb S1566 b1559 0) <| qk (inb 57 (gL S1566 b1554)) <| qv (wP S1566 b1554 57 b1559) fun S1575 => qk (isb S1575 a 6) <| qP (gP S1575 600 a) fun b1581 => qk (tgb S1575) <| qv (gk_n S1575) fun b1586 => qv (nK S1575 0 0) fun S1589 => qc (f_X0_init F S1589 b1586) fun x1592 S1593 => qk (isb S1593 b1581 14) <| qk (isb S1593 b1586 0) <| qk (inb 58 (gL S1593 b1581)) <| qv (wP S1593 b1581 58 b1586) fun S1602 => qk (isb S1602 a 6) <| qP (gP S1602 600 a) fun b1608 => qk (tgb S1602) <| qv (gk_n S1602) fun b1613 => qv (nK S1602 0 0) fun S1616 => qc (f_X0_init F S1616 b1613) fun x1619 S1620 => qk (isb S1620 b1608 14) <| qk (isb S1620 b1613 0) <| qk (inb 59 (gL S1620 b1608)) <| qv (wP S1620 b1608 59 b1613) fun S1629 => qk (isb S1629 a 6) <| qP (gP S1629 600 a) fun b1635 => qk (tgb S1629) <| qv (gk_n S1629) fun b1640 => qv (nK S1629 0 0) fun S1643 => qc (f_X0_init F S1643 b1640) fun x1646 S1647 => qk (isb S1647 b1635 14) <| qk (isb S1647 b1640 0) <| qk (inb 60 (gL S1647 b1635)) <| qv (wP S1647 b1635 60 b1640) fun S1656 => qk (isb S1656 a 6) <| qP (gP S1656 600 a) fun b1662 => qk (tgb S1656) <| qv (gk_n S1656) fun b1667 => qv (nK S1656 0 0) fun S1670 => qc (f_X0_init F S1670 b1667) fun x1673 S1674 => qk (isb S1674 b1662 14) <| qk (isb S1674 b1667 0) <| qk (inb 61 (gL S1674 b1662)) <| qv (wP S1674 b1662 61 b1667) fun S1683 => qk (isb S1683 a 6) <| qP (gP S1683 600 a) fun b1689 => qk (tgb S1683) <| qv (gk_n S1683) fun b1694 => qv (nK S1683 0 0) fun S1697 => qc (f_X0_init F S1697 b1694) fun x1700 S1701 => qk (isb S1701 b1689 14) <| qk (isb S1701 b1694 0) <| qk (inb 62 (gL S1701 b1689)) <| qv (wP S1701 b1689 62 b1694) fun S1710 => qk (isb S1710 a 6) <| qP (gP S1710 600 a) fun b1716 => qk (tgb S1710) <| qv (gk_n S1710) fun b1721 => qv (nK S1710 0 0) fun S1724 => qc (f_X0_init F S1724 b1721) fun x1727 S1728 => qk (isb S1728 b1716 14) <| qk (isb S1728 b1721 0) <| qk (inb 63 (gL S1728 b1716)) <| qv (wP S1728 b1716 63 b1721) fun S1737 => qk (isb S1737 a 6) <| qv (sI S1737 601 a 0) fun S1743 => qv (sI S1743 602 a 8) fun S1746 => qv (sI S1746 603 a 0) fun S1749 => qv (sI S1749 604 a 0) fun S1752 => qv (sI S1752 605 a 0) fun S1755 => some ((), S1755)
theorem e_X8_init {X : gk_X} {F : Nat} {S : gk_S} {a : Nat} {r : (Unit × gk_S)} (h0 : f_X8_init F S a = some r) : EvM X m_X8_init 2 65 640 [.ref a] S (qRU r) := by
  unfold f_X8_init at h0
  refine ev_method (by decide +kernel) rfl rfl (Nat.le_of_ble_eq_true rfl) ?_
  show EvW X m_X8_init 2 65 640 0 [some (.ref a), none] [] S _
  refine ev_aload_n (pc := 0) (i := 0) rfl rfl rfl dX8_init_0 ?_
  refine ev_objInit (pc := 1) gw_199 gw_31 gw_32 (by decide) (by simp) (by decide) dX8_init_1 ?_
  refine ev_aload_n (pc := 4) (i := 0) rfl rfl rfl dX8_init_4 ?_
  refine ev_bipush (pc := 5) (v := 64) (by decide) dX8_init_5 ?_
  obtain ⟨g1, h2⟩ := qk_el h0; clear h0
  obtain ⟨b3, e4, h5⟩ := qv_el h2; clear h2
  obtain ⟨S6, e7, h8⟩ := qv_el h5; clear h5
  refine yv_newq (pc := 7) (k := 64) (j := 576) (kd := 14) (N := 64) g1 (by decide) e4 e7 gw_200 (by decide) (by decide) (by decide) dX8_init_7 ?_
  obtain ⟨g9, h10⟩ := qk_el h8; clear h8
  obtain ⟨S11, e12, h13⟩ := qv_el h10; clear h10
  refine yv_putPF (pc := 10) fn_600 rfl rfl (isb_el g9) e12 gw_237 dX8_init_10 ?_
  refine ev_iconst (pc := 13) (v := 0) (by decide) dX8_init_13 ?_
  refine ev_istore_n (pc := 14) (L' := [some (.ref a), some (.int 0)]) (i := 1) rfl (by decide) rfl rfl dX8_init_14 ?_
  refine ev_iload_n (pc := 15) (i := 1) rfl rfl dX8_init_15 ?_
  refine ev_bipush (pc := 16) (v := 64) (by decide) dX8_init_16 ?_
  refine ev_ic_ge (pc := 18) (tgt := 40) (by decide) dX8_init_18 (fun c14 => absurd c14 (by decide)) (fun c14 => ?_)
  refine ev_aload_n (pc := 21) (i := 0) rfl rfl rfl dX8_init_21 ?_
  obtain ⟨b15, e16, h17⟩ := qP_el h13; clear h13
  refine xv_getP (pc := 22) fn_600 (is_sP (isb_el g9) e12) e16 gw_237 dX8_init_22 ?_
  refine ev_iload_n (pc := 25) (i := 1) rfl rfl dX8_init_25 ?_
  obtain ⟨g18, h19⟩ := qk_el h17; clear h17
  obtain ⟨b20, e21, h22⟩ := qv_el h19; clear h19
  obtain ⟨S23, e24, h25⟩ := qv_el h22; clear h22
  refine yv_new (pc := 26) (k := 63) (j := 567) (ci := 0) g18 (by decide) e21 e24 gw_200 gw_202 gw_8 dX8_init_26 ?_
  refine ev_dup (pc := 29) (.inr rfl) dX8_init_29 ?_
  obtain ⟨x26, S27, e28, h29⟩ := qc_el h25; clear h25
  refine xv_callI (pc := 30) (st := [.ref b20, .int 0, .ref b15]) (as := []) (v := none) (S' := S27) ok_X0_init (e_X0_init e28) (by decide) (by decide) (by decide) rfl (Nat.le_of_ble_eq_true rfl) rfl gw_203 dX8_init_30 ?_
  obtain ⟨g30, h31⟩ := qk_el h29; clear h29
  obtain ⟨g32, h33⟩ := qk_el h31; clear h31
  obtain ⟨g34, h35⟩ := qk_el h33; clear h33
  obtain ⟨S36, e37, h38⟩ := qv_el h35; clear h35
  refine yv_aast (pc := 33) (isb_el g30) (by decide) (isb_el g32) (inb_el g34) e37 dX8_init_33 ?_
  refine ev_iinc (pc := 34) (L' := [some (.ref a), some (.int 1)]) (i := 1) (v := 1) rfl (by decide) (by decide) rfl rfl dX8_init_34 ?_
  refine ev_goto (pc := 37) (tgt := 15) (by decide) dX8_init_37 ?_
  refine ev_iload_n (pc := 15) (i := 1) rfl rfl dX8_init_15 ?_
  refine ev_bipush (pc := 16) (v := 64) (by decide) dX8_init_16 ?_
  refine ev_ic_ge (pc := 18) (tgt := 40) (by decide) dX8_init_18 (fun c39 => absurd c39 (by decide)) (fun c39 => ?_)
  refine ev_aload_n (pc := 21) (i := 0) rfl rfl rfl dX8_init_21 ?_
  obtain ⟨g40, h41⟩ := qk_el h38; clear h38
  obtain ⟨b42, e43, h44⟩ := qP_el h41; clear h41
  refine xv_getP (pc := 22) fn_600 (isb_el g40) e43 gw_237 dX8_init_22 ?_
  refine ev_iload_n (pc := 25) (i := 1) rfl rfl dX8_init_25 ?_
  obtain ⟨g45, h46⟩ := qk_el h44; clear h44
  obtain ⟨b47, e48, h49⟩ := qv_el h46; clear h46
  obtain ⟨S50, e51, h52⟩ := qv_el h49; clear h49
  refine yv_new (pc := 26) (k := 62) (j := 558) (ci := 0) g45 (by decide) e48 e51 gw_200 gw_202 gw_8 dX8_init_26 ?_
  refine ev_dup (pc := 29) (.inr rfl) dX8_init_29 ?_
  obtain ⟨x53, S54, e55, h56⟩ := qc_el h52; clear h52
  refine xv_callI (pc := 30) (st := [.ref b47, .int 1, .ref b42]) (as := []) (v := none) (S' := S54) ok_X0_init (e_X0_init e55) (by decide) (by decide) (by decide) rfl (Nat.le_of_ble_eq_true rfl) rfl gw_203 dX8_init_30 ?_
  obtain ⟨g57, h58⟩ := qk_el h56; clear h56
  obtain ⟨g59, h60⟩ := qk_el h58; clear h58
  obtain ⟨g61, h62⟩ := qk_el h60; clear h60
  obtain ⟨S63, e64, h65⟩ := qv_el h62; clear h62
  refine yv_aast (pc := 33) (isb_el g57) (by decide) (isb_el g59) (inb_el g61) e64 dX8_init_33 ?_
  refine ev_iinc (pc := 34) (L' := [some (.ref a), some (.int 2)]) (i := 1) (v := 2) rfl (by decide) (by decide) rfl rfl dX8_init_34 ?_
  refine ev_goto (pc := 37) (tgt := 15) (by decide) dX8_init_37 ?_
  refine ev_iload_n (pc := 15) (i := 1) rfl rfl dX8_init_15 ?_
  refine ev_bipush (pc := 16) (v := 64) (by decide) dX8_init_16 ?_
  refine ev_ic_ge (pc := 18) (tgt := 40) (by decide) dX8_init_18 (fun c66 => absurd c66 (by decide)) (fun c66 => ?_)
  refine ev_aload_n (pc := 21) (i := 0) rfl rfl rfl dX8_init_21 ?_
  obtain ⟨g67, h68⟩ := qk_el h65; clear h65
  obtain ⟨b69, e70, h71⟩ := qP_el h68; clear h68
  refine xv_getP (pc := 22) fn_600 (isb_el g67) e70 gw_237 dX8_init_22 ?_
  refine ev_iload_n (pc := 25) (i := 1) rfl rfl dX8_init_25 ?_
  obtain ⟨g72, h73⟩ := qk_el h71; clear h71
  obtain ⟨b74, e75, h76⟩ := qv_el h73; clear h73
  obtain ⟨S77, e78, h79⟩ := qv_el h76; clear h76
  refine yv_new (pc := 26) (k := 61) (j := 549) (ci := 0) g72 (by decide) e75 e78 gw_200 gw_202 gw_8 dX8_init_26 ?_
  refine ev_dup (pc := 29) (.inr rfl) dX8_init_29 ?_
  obtain ⟨x80, S81, e82, h83⟩ := qc_el h79; clear h79
  refine xv_callI (pc := 30) (st := [.ref b74, .int 2, .ref b69]) (as := []) (v := none) (S' := S81) ok_X0_init (e_X0_init e82) (by decide) (by decide) (by decide) rfl (Nat.le_of_ble_eq_true rfl) rfl gw_203 dX8_init_30 ?_
  obtain ⟨g84, h85⟩ := qk_el h83; clear h83
  obtain ⟨g86, h87⟩ := qk_el h85; clear h85
  obtain ⟨g88, h89⟩ := qk_el h87; clear h87
  obtain ⟨S90, e91, h92⟩ := qv_el h89; clear h89
  refine yv_aast (pc := 33) (isb_el g84) (by decide) (isb_el g86) (inb_el g88) e91 dX8_init_33 ?_
  refine ev_iinc (pc := 34) (L' := [some (.ref a), some (.int 3)]) (i := 1) (v := 3) rfl (by decide) (by decide) rfl rfl dX8_init_34 ?_
  refine ev_goto (pc := 37) (tgt := 15) (by decide) dX8_init_37 ?_
  refine ev_iload_n (pc := 15) (i := 1) rfl rfl dX8_init_15 ?_
  refine ev_bipush (pc := 16) (v := 64) (by decide) dX8_init_16 ?_
  refine ev_ic_ge (pc := 18) (tgt := 40) (by decide) dX8_init_18 (fun c93 => absurd c93 (by decide)) (fun c93 => ?_)
  refine ev_aload_n (pc := 21) (i := 0) rfl rfl rfl dX8_init_21 ?_
  obtain ⟨g94, h95⟩ := qk_el h92; clear h92
  obtain ⟨b96, e97, h98⟩ := qP_el h95; clear h95
  refine xv_getP (pc := 22) fn_600 (isb_el g94) e97 gw_237 dX8_init_22 ?_
  refine ev_iload_n (pc := 25) (i := 1) rfl rfl dX8_init_25 ?_
  obtain ⟨g99, h100⟩ := qk_el h98; clear h98
  obtain ⟨b101, e102, h103⟩ := qv_el h100; clear h100
  obtain ⟨S104, e105, h106⟩ := qv_el h103; clear h103
  refine yv_new (pc := 26) (k := 60) (j := 540) (ci := 0) g99 (by decide) e102 e105 gw_200 gw_202 gw_8 dX8_init_26 ?_
  refine ev_dup (pc := 29) (.inr rfl) dX8_init_29 ?_
  obtain ⟨x107, S108, e109, h110⟩ := qc_el h106; clear h106
  refine xv_callI (pc := 30) (st := [.ref b101, .int 3, .ref b96]) (as := []) (v := none) (S' := S108) ok_X0_init (e_X0_init e109) (by decide) (by decide) (by decide) rfl (Nat.le_of_ble_eq_true rfl) rfl gw_203 dX8_init_30 ?_
  obtain ⟨g111, h112⟩ := qk_el h110; clear h110
  obtain ⟨g113, h114⟩ := qk_el h112; clear h112
  obtain ⟨g115, h116⟩ := qk_el h114; clear h114
  obtain ⟨S117, e118, h119⟩ := qv_el h116; clear h116
  refine yv_aast (pc := 33) (isb_el g111) (by decide) (isb_el g113) (inb_el g115) e118 dX8_init_33 ?_
  refine ev_iinc (pc := 34) (L' := [some (.ref a), some (.int 4)]) (i := 1) (v := 4) rfl (by decide) (by decide) rfl rfl dX8_init_34 ?_
  refine ev_goto (pc := 37) (tgt := 15) (by decide) dX8_init_37 ?_
  refine ev_iload_n (pc := 15) (i := 1) rfl rfl dX8_init_15 ?_
  refine ev_bipush (pc := 16) (v := 64) (by decide) dX8_init_16 ?_
  refine ev_ic_ge (pc := 18) (tgt := 40) (by decide) dX8_init_18 (fun c120 => absurd c120 (by decide)) (fun c120 => ?_)
  refine ev_aload_n (pc := 21) (i := 0) rfl rfl rfl dX8_init_21 ?_
  obtain ⟨g121, h122⟩ := qk_el h119; clear h119
  obtain ⟨b123, e124, h125⟩ := qP_el h122; clear h122
  refine xv_getP (pc := 22) fn_600 (isb_el g121) e124 gw_237 dX8_init_22 ?_
  refine ev_iload_n (pc := 25) (i := 1) rfl rfl dX8_init_25 ?_
  obtain ⟨g126, h127⟩ := qk_el h125; clear h125
  obtain ⟨b128, e129, h130⟩ := qv_el h127; clear h127
  obtain ⟨S131, e132, h133⟩ := qv_el h130; clear h130
  refine yv_new (pc := 26) (k := 59) (j := 531) (ci := 0) g126 (by decide) e129 e132 gw_200 gw_202 gw_8 dX8_init_26 ?_
  refine ev_dup (pc := 29) (.inr rfl) dX8_init_29 ?_
  obtain ⟨x134, S135, e136, h137⟩ := qc_el h133; clear h133
  refine xv_callI (pc := 30) (st := [.ref b128, .int 4, .ref b123]) (as := []) (v := none) (S' := S135) ok_X0_init (e_X0_init e136) (by decide) (by decide) (by decide) rfl (Nat.le_of_ble_eq_true rfl) rfl gw_203 dX8_init_30 ?_
  obtain ⟨g138, h139⟩ := qk_el h137; clear h137
  obtain ⟨g140, h141⟩ := qk_el h139; clear h139
  obtain ⟨g142, h143⟩ := qk_el h141; clear h141
  obtain ⟨S144, e145, h146⟩ := qv_el h143; clear h143
  refine yv_aast (pc := 33) (isb_el g138) (by decide) (isb_el g140) (inb_el g142) e145 dX8_init_33 ?_
  refine ev_iinc (pc := 34) (L' := [some (.ref a), some (.int 5)]) (i := 1) (v := 5) rfl (by decide) (by decide) rfl rfl dX8_init_34 ?_
  refine ev_goto (pc := 37) (tgt := 15) (by decide) dX8_init_37 ?_
  refine ev_iload_n (pc := 15) (i := 1) rfl rfl dX8_init_15 ?_
  refine ev_bipush (pc := 16) (v := 64) (by decide) dX8_init_16 ?_
  refine ev_ic_ge (pc := 18) (tgt := 40) (by decide) dX8_init_18 (fun c147 => absurd c147 (by decide)) (fun c147 => ?_)
  refine ev_aload_n (pc := 21) (i := 0) rfl rfl rfl dX8_init_21 ?_
  obtain ⟨g148, h149⟩ := qk_el h146; clear h146
  obtain ⟨b150, e151, h152⟩ := qP_el h149; clear h149
  refine xv_getP (pc := 22) fn_600 (isb_el g148) e151 gw_237 dX8_init_22 ?_
  refine ev_iload_n (pc := 25) (i := 1) rfl rfl dX8_init_25 ?_
  obtain ⟨g153, h154⟩ := qk_el h152; clear h152
  obtain ⟨b155, e156, h157⟩ := qv_el h154; clear h154
  obtain ⟨S158, e159, h160⟩ := qv_el h157; clear h157
  refine yv_new (pc := 26) (k := 58) (j := 522) (ci := 0) g153 (by decide) e156 e159 gw_200 gw_202 gw_8 dX8_init_26 ?_
  refine ev_dup (pc := 29) (.inr rfl) dX8_init_29 ?_
  obtain ⟨x161, S162, e163, h164⟩ := qc_el h160; clear h160
  refine xv_callI (pc := 30) (st := [.ref b155, .int 5, .ref b150]) (as := []) (v := none) (S' := S162) ok_X0_init (e_X0_init e163) (by decide) (by decide) (by decide) rfl (Nat.le_of_ble_eq_true rfl) rfl gw_203 dX8_init_30 ?_
  obtain ⟨g165, h166⟩ := qk_el h164; clear h164
  obtain ⟨g167, h168⟩ := qk_el h166; clear h166
  obtain ⟨g169, h170⟩ := qk_el h168; clear h168
  obtain ⟨S171, e172, h173⟩ := qv_el h170; clear h170
  refine yv_aast (pc := 33) (isb_el g165) (by decide) (isb_el g167) (inb_el g169) e172 dX8_init_33 ?_
  refine ev_iinc (pc := 34) (L' := [some (.ref a), some (.int 6)]) (i := 1) (v := 6) rfl (by decide) (by decide) rfl rfl dX8_init_34 ?_
  refine ev_goto (pc := 37) (tgt := 15) (by decide) dX8_init_37 ?_
  refine ev_iload_n (pc := 15) (i := 1) rfl rfl dX8_init_15 ?_
  refine ev_bipush (pc := 16) (v := 64) (by decide) dX8_init_16 ?_
  refine ev_ic_ge (pc := 18) (tgt := 40) (by decide) dX8_init_18 (fun c174 => absurd c174 (by decide)) (fun c174 => ?_)
  refine ev_aload_n (pc := 21) (i := 0) rfl rfl rfl dX8_init_21 ?_
  obtain ⟨g175, h176⟩ := qk_el h173; clear h173
  obtain ⟨b177, e178, h179⟩ := qP_el h176; clear h176
  refine xv_getP (pc := 22) fn_600 (isb_el g175) e178 gw_237 dX8_init_22 ?_
  refine ev_iload_n (pc := 25) (i := 1) rfl rfl dX8_init_25 ?_
  obtain ⟨g180, h181⟩ := qk_el h179; clear h179
  obtain ⟨b182, e183, h184⟩ := qv_el h181; clear h181
  obtain ⟨S185, e186, h187⟩ := qv_el h184; clear h184
  refine yv_new (pc := 26) (k := 57) (j := 513) (ci := 0) g180 (by decide) e183 e186 gw_200 gw_202 gw_8 dX8_init_26 ?_
  refine ev_dup (pc := 29) (.inr rfl) dX8_init_29 ?_
  obtain ⟨x188, S189, e190, h191⟩ := qc_el h187; clear h187
  refine xv_callI (pc := 30) (st := [.ref b182, .int 6, .ref b177]) (as := []) (v := none) (S' := S189) ok_X0_init (e_X0_init e190) (by decide) (by decide) (by decide) rfl (Nat.le_of_ble_eq_true rfl) rfl gw_203 dX8_init_30 ?_
  obtain ⟨g192, h193⟩ := qk_el h191; clear h191
  obtain ⟨g194, h195⟩ := qk_el h193; clear h193
  obtain ⟨g196, h197⟩ := qk_el h195; clear h195
  obtain ⟨S198, e199, h200⟩ := qv_el h197; clear h197
  refine yv_aast (pc := 33) (isb_el g192) (by decide) (isb_el g194) (inb_el g196) e199 dX8_init_33 ?_
  refine ev_iinc (pc := 34) (L' := [some (.ref a), some (.int 7)]) (i := 1) (v := 7) rfl (by decide) (by decide) rfl rfl dX8_init_34 ?_
  refine ev_goto (pc := 37) (tgt := 15) (by decide) dX8_init_37 ?_
  refine ev_iload_n (pc := 15) (i := 1) rfl rfl dX8_init_15 ?_
  refine ev_bipush (pc := 16) (v := 64) (by decide) dX8_init_16 ?_
  refine ev_ic_ge (pc := 18) (tgt := 40) (by decide) dX8_init_18 (fun c201 => absurd c201 (by decide)) (fun c201 => ?_)
  refine ev_aload_n (pc := 21) (i := 0) rfl rfl rfl dX8_init_21 ?_
  obtain ⟨g202, h203⟩ := qk_el h200; clear h200
  obtain ⟨b204, e205, h206⟩ := qP_el h203; clear h203
  refine xv_getP (pc := 22) fn_600 (isb_el g202) e205 gw_237 dX8_init_22 ?_
  refine ev_iload_n (pc := 25) (i := 1) rfl rfl dX8_init_25 ?_
  obtain ⟨g207, h208⟩ := qk_el h206; clear h206
  obtain ⟨b209, e210, h211⟩ := qv_el h208; clear h208
  obtain ⟨S212, e213, h214⟩ := qv_el h211; clear h211
  refine yv_new (pc := 26) (k := 56) (j := 504) (ci := 0) g207 (by decide) e210 e213 gw_200 gw_202 gw_8 dX8_init_26 ?_
  refine ev_dup (pc := 29) (.inr rfl) dX8_init_29 ?_
  obtain ⟨x215, S216, e217, h218⟩ := qc_el h214; clear h214
  refine xv_callI (pc := 30) (st := [.ref b209, .int 7, .ref b204]) (as := []) (v := none) (S' := S216) ok_X0_init (e_X0_init e217) (by decide) (by decide) (by decide) rfl (Nat.le_of_ble_eq_true rfl) rfl gw_203 dX8_init_30 ?_
  obtain ⟨g219, h220⟩ := qk_el h218; clear h218
  obtain ⟨g221, h222⟩ := qk_el h220; clear h220
  obtain ⟨g223, h224⟩ := qk_el h222; clear h222
  obtain ⟨S225, e226, h227⟩ := qv_el h224; clear h224
  refine yv_aast (pc := 33) (isb_el g219) (by decide) (isb_el g221) (inb_el g223) e226 dX8_init_33 ?_
  refine ev_iinc (pc := 34) (L' := [some (.ref a), some (.int 8)]) (i := 1) (v := 8) rfl (by decide) (by decide) rfl rfl dX8_init_34 ?_
  refine ev_goto (pc := 37) (tgt := 15) (by decide) dX8_init_37 ?_
  refine ev_iload_n (pc := 15) (i := 1) rfl rfl dX8_init_15 ?_
  refine ev_bipush (pc := 16) (v := 64) (by decide) dX8_init_16 ?_
  refine ev_ic_ge (pc := 18) (tgt := 40) (by decide) dX8_init_18 (fun c228 => absurd c228 (by decide)) (fun c228 => ?_)
  refine ev_aload_n (pc := 21) (i := 0) rfl rfl rfl dX8_init_21 ?_
  obtain ⟨g229, h230⟩ := qk_el h227; clear h227
  obtain ⟨b231, e232, h233⟩ := qP_el h230; clear h230
  refine xv_getP (pc := 22) fn_600 (isb_el g229) e232 gw_237 dX8_init_22 ?_
  refine ev_iload_n (pc := 25) (i := 1) rfl rfl dX8_init_25 ?_
  obtain ⟨g234, h235⟩ := qk_el h233; clear h233
  obtain ⟨b236, e237, h238⟩ := qv_el h235; clear h235
  obtain ⟨S239, e240, h241⟩ := qv_el h238; clear h238
  refine yv_new (pc := 26) (k := 55) (j := 495) (ci := 0) g234 (by decide) e237 e240 gw_200 gw_202 gw_8 dX8_init_26 ?_
  refine ev_dup (pc := 29) (.inr rfl) dX8_init_29 ?_
  obtain ⟨x242, S243, e244, h245⟩ := qc_el h241; clear h241
  refine xv_callI (pc := 30) (st := [.ref b236, .int 8, .ref b231]) (as := []) (v := none) (S' := S243) ok_X0_init (e_X0_init e244) (by decide) (by decide) (by decide) rfl (Nat.le_of_ble_eq_true rfl) rfl gw_203 dX8_init_30 ?_
  obtain ⟨g246, h247⟩ := qk_el h245; clear h245
  obtain ⟨g248, h249⟩ := qk_el h247; clear h247
  obtain ⟨g250, h251⟩ := qk_el h249; clear h249
  obtain ⟨S252, e253, h254⟩ := qv_el h251; clear h251
  refine yv_aast (pc := 33) (isb_el g246) (by decide) (isb_el g248) (inb_el g250) e253 dX8_init_33 ?_
  refine ev_iinc (pc := 34) (L' := [some (.ref a), some (.int 9)]) (i := 1) (v := 9) rfl (by decide) (by decide) rfl rfl dX8_init_34 ?_
  refine ev_goto (pc := 37) (tgt := 15) (by decide) dX8_init_37 ?_
  refine ev_iload_n (pc := 15) (i := 1) rfl rfl dX8_init_15 ?_
  refine ev_bipush (pc := 16) (v := 64) (by decide) dX8_init_16 ?_
  refine ev_ic_ge (pc := 18) (tgt := 40) (by decide) dX8_init_18 (fun c255 => absurd c255 (by decide)) (fun c255 => ?_)
  refine ev_aload_n (pc := 21) (i := 0) rfl rfl rfl dX8_init_21 ?_
  obtain ⟨g256, h257⟩ := qk_el h254; clear h254
  obtain ⟨b258, e259, h260⟩ := qP_el h257; clear h257
  refine xv_getP (pc := 22) fn_600 (isb_el g256) e259 gw_237 dX8_init_22 ?_
  refine ev_iload_n (pc := 25) (i := 1) rfl rfl dX8_init_25 ?_
  obtain ⟨g261, h262⟩ := qk_el h260; clear h260
  obtain ⟨b263, e264, h265⟩ := qv_el h262; clear h262
  obtain ⟨S266, e267, h268⟩ := qv_el h265; clear h265
  refine yv_new (pc := 26) (k := 54) (j := 486) (ci := 0) g261 (by decide) e264 e267 gw_200 gw_202 gw_8 dX8_init_26 ?_
  refine ev_dup (pc := 29) (.inr rfl) dX8_init_29 ?_
  obtain ⟨x269, S270, e271, h272⟩ := qc_el h268; clear h268
  refine xv_callI (pc := 30) (st := [.ref b263, .int 9, .ref b258]) (as := []) (v := none) (S' := S270) ok_X0_init (e_X0_init e271) (by decide) (by decide) (by decide) rfl (Nat.le_of_ble_eq_true rfl) rfl gw_203 dX8_init_30 ?_
  obtain ⟨g273, h274⟩ := qk_el h272; clear h272
  obtain ⟨g275, h276⟩ := qk_el h274; clear h274
  obtain ⟨g277, h278⟩ := qk_el h276; clear h276
  obtain ⟨S279, e280, h281⟩ := qv_el h278; clear h278
  refine yv_aast (pc := 33) (isb_el g273) (by decide) (isb_el g275) (inb_el g277) e280 dX8_init_33 ?_
  refine ev_iinc (pc := 34) (L' := [some (.ref a), some (.int 10)]) (i := 1) (v := 10) rfl (by decide) (by decide) rfl rfl dX8_init_34 ?_
  refine ev_goto (pc := 37) (tgt := 15) (by decide) dX8_init_37 ?_
  refine ev_iload_n (pc := 15) (i := 1) rfl rfl dX8_init_15 ?_
  refine ev_bipush (pc := 16) (v := 64) (by decide) dX8_init_16 ?_
  refine ev_ic_ge (pc := 18) (tgt := 40) (by decide) dX8_init_18 (fun c282 => absurd c282 (by decide)) (fun c282 => ?_)
  refine ev_aload_n (pc := 21) (i := 0) rfl rfl rfl dX8_init_21 ?_
  obtain ⟨g283, h284⟩ := qk_el h281; clear h281
  obtain ⟨b285, e286, h287⟩ := qP_el h284; clear h284
  refine xv_getP (pc := 22) fn_600 (isb_el g283) e286 gw_237 dX8_init_22 ?_
  refine ev_iload_n (pc := 25) (i := 1) rfl rfl dX8_init_25 ?_
  obtain ⟨g288, h289⟩ := qk_el h287; clear h287
  obtain ⟨b290, e291, h292⟩ := qv_el h289; clear h289
  obtain ⟨S293, e294, h295⟩ := qv_el h292; clear h292
  refine yv_new (pc := 26) (k := 53) (j := 477) (ci := 0) g288 (by decide) e291 e294 gw_200 gw_202 gw_8 dX8_init_26 ?_
  refine ev_dup (pc := 29) (.inr rfl) dX8_init_29 ?_
  obtain ⟨x296, S297, e298, h299⟩ := qc_el h295; clear h295
  refine xv_callI (pc := 30) (st := [.ref b290, .int 10, .ref b285]) (as := []) (v := none) (S' := S297) ok_X0_init (e_X0_init e298) (by decide) (by decide) (by decide) rfl (Nat.le_of_ble_eq_true rfl) rfl gw_203 dX8_init_30 ?_
  obtain ⟨g300, h301⟩ := qk_el h299; clear h299
  obtain ⟨g302, h303⟩ := qk_el h301; clear h301
  obtain ⟨g304, h305⟩ := qk_el h303; clear h303
  obtain ⟨S306, e307, h308⟩ := qv_el h305; clear h305
  refine yv_aast (pc := 33) (isb_el g300) (by decide) (isb_el g302) (inb_el g304) e307 dX8_init_33 ?_
  refine ev_iinc (pc := 34) (L' := [some (.ref a), some (.int 11)]) (i := 1) (v := 11) rfl (by decide) (by decide) rfl rfl dX8_init_34 ?_
  refine ev_goto (pc := 37) (tgt := 15) (by decide) dX8_init_37 ?_
  refine ev_iload_n (pc := 15) (i := 1) rfl rfl dX8_init_15 ?_
  refine ev_bipush (pc := 16) (v := 64) (by decide) dX8_init_16 ?_
  refine ev_ic_ge (pc := 18) (tgt := 40) (by decide) dX8_init_18 (fun c309 => absurd c309 (by decide)) (fun c309 => ?_)
  refine ev_aload_n (pc := 21) (i := 0) rfl rfl rfl dX8_init_21 ?_
  obtain ⟨g310, h311⟩ := qk_el h308; clear h308
  obtain ⟨b312, e313, h314⟩ := qP_el h311; clear h311
  refine xv_getP (pc := 22) fn_600 (isb_el g310) e313 gw_237 dX8_init_22 ?_
  refine ev_iload_n (pc := 25) (i := 1) rfl rfl dX8_init_25 ?_
  obtain ⟨g315, h316⟩ := qk_el h314; clear h314
  obtain ⟨b317, e318, h319⟩ := qv_el h316; clear h316
  obtain ⟨S320, e321, h322⟩ := qv_el h319; clear h319
  refine yv_new (pc := 26) (k := 52) (j := 468) (ci := 0) g315 (by decide) e318 e321 gw_200 gw_202 gw_8 dX8_init_26 ?_
  refine ev_dup (pc := 29) (.inr rfl) dX8_init_29 ?_
  obtain ⟨x323, S324, e325, h326⟩ := qc_el h322; clear h322
  refine xv_callI (pc := 30) (st := [.ref b317, .int 11, .ref b312]) (as := []) (v := none) (S' := S324) ok_X0_init (e_X0_init e325) (by decide) (by decide) (by decide) rfl (Nat.le_of_ble_eq_true rfl) rfl gw_203 dX8_init_30 ?_
  obtain ⟨g327, h328⟩ := qk_el h326; clear h326
  obtain ⟨g329, h330⟩ := qk_el h328; clear h328
  obtain ⟨g331, h332⟩ := qk_el h330; clear h330
  obtain ⟨S333, e334, h335⟩ := qv_el h332; clear h332
  refine yv_aast (pc := 33) (isb_el g327) (by decide) (isb_el g329) (inb_el g331) e334 dX8_init_33 ?_
  refine ev_iinc (pc := 34) (L' := [some (.ref a), some (.int 12)]) (i := 1) (v := 12) rfl (by decide) (by decide) rfl rfl dX8_init_34 ?_
  refine ev_goto (pc := 37) (tgt := 15) (by decide) dX8_init_37 ?_
  refine ev_iload_n (pc := 15) (i := 1) rfl rfl dX8_init_15 ?_
  refine ev_bipush (pc := 16) (v := 64) (by decide) dX8_init_16 ?_
  refine ev_ic_ge (pc := 18) (tgt := 40) (by decide) dX8_init_18 (fun c336 => absurd c336 (by decide)) (fun c336 => ?_)
  refine ev_aload_n (pc := 21) (i := 0) rfl rfl rfl dX8_init_21 ?_
  obtain ⟨g337, h338⟩ := qk_el h335; clear h335
  obtain ⟨b339, e340, h341⟩ := qP_el h338; clear h338
  refine xv_getP (pc := 22) fn_600 (isb_el g337) e340 gw_237 dX8_init_22 ?_
  refine ev_iload_n (pc := 25) (i := 1) rfl rfl dX8_init_25 ?_
  obtain ⟨g342, h343⟩ := qk_el h341; clear h341
  obtain ⟨b344, e345, h346⟩ := qv_el h343; clear h343
  obtain ⟨S347, e348, h349⟩ := qv_el h346; clear h346
  refine yv_new (pc := 26) (k := 51) (j := 459) (ci := 0) g342 (by decide) e345 e348 gw_200 gw_202 gw_8 dX8_init_26 ?_
  refine ev_dup (pc := 29) (.inr rfl) dX8_init_29 ?_
  obtain ⟨x350, S351, e352, h353⟩ := qc_el h349; clear h349
  refine xv_callI (pc := 30) (st := [.ref b344, .int 12, .ref b339]) (as := []) (v := none) (S' := S351) ok_X0_init (e_X0_init e352) (by decide) (by decide) (by decide) rfl (Nat.le_of_ble_eq_true rfl) rfl gw_203 dX8_init_30 ?_
  obtain ⟨g354, h355⟩ := qk_el h353; clear h353
  obtain ⟨g356, h357⟩ := qk_el h355; clear h355
  obtain ⟨g358, h359⟩ := qk_el h357; clear h357
  obtain ⟨S360, e361, h362⟩ := qv_el h359; clear h359
  refine yv_aast (pc := 33) (isb_el g354) (by decide) (isb_el g356) (inb_el g358) e361 dX8_init_33 ?_
  refine ev_iinc (pc := 34) (L' := [some (.ref a), some (.int 13)]) (i := 1) (v := 13) rfl (by decide) (by decide) rfl rfl dX8_init_34 ?_
  refine ev_goto (pc := 37) (tgt := 15) (by decide) dX8_init_37 ?_
  refine ev_iload_n (pc := 15) (i := 1) rfl rfl dX8_init_15 ?_
  refine ev_bipush (pc := 16) (v := 64) (by decide) dX8_init_16 ?_
  refine ev_ic_ge (pc := 18) (tgt := 40) (by decide) dX8_init_18 (fun c363 => absurd c363 (by decide)) (fun c363 => ?_)
  refine ev_aload_n (pc := 21) (i := 0) rfl rfl rfl dX8_init_21 ?_
  obtain ⟨g364, h365⟩ := qk_el h362; clear h362
  obtain ⟨b366, e367, h368⟩ := qP_el h365; clear h365
  refine xv_getP (pc := 22) fn_600 (isb_el g364) e367 gw_237 dX8_init_22 ?_
  refine ev_iload_n (pc := 25) (i := 1) rfl rfl dX8_init_25 ?_
  obtain ⟨g369, h370⟩ := qk_el h368; clear h368
  obtain ⟨b371, e372, h373⟩ := qv_el h370; clear h370
  obtain ⟨S374, e375, h376⟩ := qv_el h373; clear h373
  refine yv_new (pc := 26) (k := 50) (j := 450) (ci := 0) g369 (by decide) e372 e375 gw_200 gw_202 gw_8 dX8_init_26 ?_
  refine ev_dup (pc := 29) (.inr rfl) dX8_init_29 ?_
  obtain ⟨x377, S378, e379, h380⟩ := qc_el h376; clear h376
  refine xv_callI (pc := 30) (st := [.ref b371, .int 13, .ref b366]) (as := []) (v := none) (S' := S378) ok_X0_init (e_X0_init e379) (by decide) (by decide) (by decide) rfl (Nat.le_of_ble_eq_true rfl) rfl gw_203 dX8_init_30 ?_
  obtain ⟨g381, h382⟩ := qk_el h380; clear h380
  obtain ⟨g383, h384⟩ := qk_el h382; clear h382
  obtain ⟨g385, h386⟩ := qk_el h384; clear h384
  obtain ⟨S387, e388, h389⟩ := qv_el h386; clear h386
  refine yv_aast (pc := 33) (isb_el g381) (by decide) (isb_el g383) (inb_el g385) e388 dX8_init_33 ?_
  refine ev_iinc (pc := 34) (L' := [some (.ref a), some (.int 14)]) (i := 1) (v := 14) rfl (by decide) (by decide) rfl rfl dX8_init_34 ?_
  refine ev_goto (pc := 37) (tgt := 15) (by decide) dX8_init_37 ?_
  refine ev_iload_n (pc := 15) (i := 1) rfl rfl dX8_init_15 ?_
  refine ev_bipush (pc := 16) (v := 64) (by decide) dX8_init_16 ?_
  refine ev_ic_ge (pc := 18) (tgt := 40) (by decide) dX8_init_18 (fun c390 => absurd c390 (by decide)) (fun c390 => ?_)
  refine ev_aload_n (pc := 21) (i := 0) rfl rfl rfl dX8_init_21 ?_
  obtain ⟨g391, h392⟩ := qk_el h389; clear h389
  obtain ⟨b393, e394, h395⟩ := qP_el h392; clear h392
  refine xv_getP (pc := 22) fn_600 (isb_el g391) e394 gw_237 dX8_init_22 ?_
  refine ev_iload_n (pc := 25) (i := 1) rfl rfl dX8_init_25 ?_
  obtain ⟨g396, h397⟩ := qk_el h395; clear h395
  obtain ⟨b398, e399, h400⟩ := qv_el h397; clear h397
  obtain ⟨S401, e402, h403⟩ := qv_el h400; clear h400
  refine yv_new (pc := 26) (k := 49) (j := 441) (ci := 0) g396 (by decide) e399 e402 gw_200 gw_202 gw_8 dX8_init_26 ?_
  refine ev_dup (pc := 29) (.inr rfl) dX8_init_29 ?_
  obtain ⟨x404, S405, e406, h407⟩ := qc_el h403; clear h403
  refine xv_callI (pc := 30) (st := [.ref b398, .int 14, .ref b393]) (as := []) (v := none) (S' := S405) ok_X0_init (e_X0_init e406) (by decide) (by decide) (by decide) rfl (Nat.le_of_ble_eq_true rfl) rfl gw_203 dX8_init_30 ?_
  obtain ⟨g408, h409⟩ := qk_el h407; clear h407
  obtain ⟨g410, h411⟩ := qk_el h409; clear h409
  obtain ⟨g412, h413⟩ := qk_el h411; clear h411
  obtain ⟨S414, e415, h416⟩ := qv_el h413; clear h413
  refine yv_aast (pc := 33) (isb_el g408) (by decide) (isb_el g410) (inb_el g412) e415 dX8_init_33 ?_
  refine ev_iinc (pc := 34) (L' := [some (.ref a), some (.int 15)]) (i := 1) (v := 15) rfl (by decide) (by decide) rfl rfl dX8_init_34 ?_
  refine ev_goto (pc := 37) (tgt := 15) (by decide) dX8_init_37 ?_
  refine ev_iload_n (pc := 15) (i := 1) rfl rfl dX8_init_15 ?_
  refine ev_bipush (pc := 16) (v := 64) (by decide) dX8_init_16 ?_
  refine ev_ic_ge (pc := 18) (tgt := 40) (by decide) dX8_init_18 (fun c417 => absurd c417 (by decide)) (fun c417 => ?_)
  refine ev_aload_n (pc := 21) (i := 0) rfl rfl rfl dX8_init_21 ?_
  obtain ⟨g418, h419⟩ := qk_el h416; clear h416
  obtain ⟨b420, e421, h422⟩ := qP_el h419; clear h419
  refine xv_getP (pc := 22) fn_600 (isb_el g418) e421 gw_237 dX8_init_22 ?_
  refine ev_iload_n (pc := 25) (i := 1) rfl rfl dX8_init_25 ?_
  obtain ⟨g423, h424⟩ := qk_el h422; clear h422
  obtain ⟨b425, e426, h427⟩ := qv_el h424; clear h424
  obtain ⟨S428, e429, h430⟩ := qv_el h427; clear h427
  refine yv_new (pc := 26) (k := 48) (j := 432) (ci := 0) g423 (by decide) e426 e429 gw_200 gw_202 gw_8 dX8_init_26 ?_
  refine ev_dup (pc := 29) (.inr rfl) dX8_init_29 ?_
  obtain ⟨x431, S432, e433, h434⟩ := qc_el h430; clear h430
  refine xv_callI (pc := 30) (st := [.ref b425, .int 15, .ref b420]) (as := []) (v := none) (S' := S432) ok_X0_init (e_X0_init e433) (by decide) (by decide) (by decide) rfl (Nat.le_of_ble_eq_true rfl) rfl gw_203 dX8_init_30 ?_
  obtain ⟨g435, h436⟩ := qk_el h434; clear h434
  obtain ⟨g437, h438⟩ := qk_el h436; clear h436
  obtain ⟨g439, h440⟩ := qk_el h438; clear h438
  obtain ⟨S441, e442, h443⟩ := qv_el h440; clear h440
  refine yv_aast (pc := 33) (isb_el g435) (by decide) (isb_el g437) (inb_el g439) e442 dX8_init_33 ?_
  refine ev_iinc (pc := 34) (L' := [some (.ref a), some (.int 16)]) (i := 1) (v := 16) rfl (by decide) (by decide) rfl rfl dX8_init_34 ?_
  refine ev_goto (pc := 37) (tgt := 15) (by decide) dX8_init_37 ?_
  refine ev_iload_n (pc := 15) (i := 1) rfl rfl dX8_init_15 ?_
  refine ev_bipush (pc := 16) (v := 64) (by decide) dX8_init_16 ?_
  refine ev_ic_ge (pc := 18) (tgt := 40) (by decide) dX8_init_18 (fun c444 => absurd c444 (by decide)) (fun c444 => ?_)
  refine ev_aload_n (pc := 21) (i := 0) rfl rfl rfl dX8_init_21 ?_
  obtain ⟨g445, h446⟩ := qk_el h443; clear h443
  obtain ⟨b447, e448, h449⟩ := qP_el h446; clear h446
  refine xv_getP (pc := 22) fn_600 (isb_el g445) e448 gw_237 dX8_init_22 ?_
  refine ev_iload_n (pc := 25) (i := 1) rfl rfl dX8_init_25 ?_
  obtain ⟨g450, h451⟩ := qk_el h449; clear h449
  obtain ⟨b452, e453, h454⟩ := qv_el h451; clear h451
  obtain ⟨S455, e456, h457⟩ := qv_el h454; clear h454
  refine yv_new (pc := 26) (k := 47) (j := 423) (ci := 0) g450 (by decide) e453 e456 gw_200 gw_202 gw_8 dX8_init_26 ?_
  refine ev_dup (pc := 29) (.inr rfl) dX8_init_29 ?_
  obtain ⟨x458, S459, e460, h461⟩ := qc_el h457; clear h457
  refine xv_callI (pc := 30) (st := [.ref b452, .int 16, .ref b447]) (as := []) (v := none) (S' := S459) ok_X0_init (e_X0_init e460) (by decide) (by decide) (by decide) rfl (Nat.le_of_ble_eq_true rfl) rfl gw_203 dX8_init_30 ?_
  obtain ⟨g462, h463⟩ := qk_el h461; clear h461
  obtain ⟨g464, h465⟩ := qk_el h463; clear h463
  obtain ⟨g466, h467⟩ := qk_el h465; clear h465
  obtain ⟨S468, e469, h470⟩ := qv_el h467; clear h467
  refine yv_aast (pc := 33) (isb_el g462) (by decide) (isb_el g464) (inb_el g466) e469 dX8_init_33 ?_
  refine ev_iinc (pc := 34) (L' := [some (.ref a), some (.int 17)]) (i := 1) (v := 17) rfl (by decide) (by decide) rfl rfl dX8_init_34 ?_
  refine ev_goto (pc := 37) (tgt := 15) (by decide) dX8_init_37 ?_
  refine ev_iload_n (pc := 15) (i := 1) rfl rfl dX8_init_15 ?_
  refine ev_bipush (pc := 16) (v := 64) (by decide) dX8_init_16 ?_
  refine ev_ic_ge (pc := 18) (tgt := 40) (by decide) dX8_init_18 (fun c471 => absurd c471 (by decide)) (fun c471 => ?_)
  refine ev_aload_n (pc := 21) (i := 0) rfl rfl rfl dX8_init_21 ?_
  obtain ⟨g472, h473⟩ := qk_el h470; clear h470
  obtain ⟨b474, e475, h476⟩ := qP_el h473; clear h473
  refine xv_getP (pc := 22) fn_600 (isb_el g472) e475 gw_237 dX8_init_22 ?_
  refine ev_iload_n (pc := 25) (i := 1) rfl rfl dX8_init_25 ?_
  obtain ⟨g477, h478⟩ := qk_el h476; clear h476
  obtain ⟨b479, e480, h481⟩ := qv_el h478; clear h478
  obtain ⟨S482, e483, h484⟩ := qv_el h481; clear h481
  refine yv_new (pc := 26) (k := 46) (j := 414) (ci := 0) g477 (by decide) e480 e483 gw_200 gw_202 gw_8 dX8_init_26 ?_
  refine ev_dup (pc := 29) (.inr rfl) dX8_init_29 ?_
  obtain ⟨x485, S486, e487, h488⟩ := qc_el h484; clear h484
  refine xv_callI (pc := 30) (st := [.ref b479, .int 17, .ref b474]) (as := []) (v := none) (S' := S486) ok_X0_init (e_X0_init e487) (by decide) (by decide) (by decide) rfl (Nat.le_of_ble_eq_true rfl) rfl gw_203 dX8_init_30 ?_
  obtain ⟨g489, h490⟩ := qk_el h488; clear h488
  obtain ⟨g491, h492⟩ := qk_el h490; clear h490
  obtain ⟨g493, h494⟩ := qk_el h492; clear h492
  obtain ⟨S495, e496, h497⟩ := qv_el h494; clear h494
  refine yv_aast (pc := 33) (isb_el g489) (by decide) (isb_el g491) (inb_el g493) e496 dX8_init_33 ?_
  refine ev_iinc (pc := 34) (L' := [some (.ref a), some (.int 18)]) (i := 1) (v := 18) rfl (by decide) (by decide) rfl rfl dX8_init_34 ?_
  refine ev_goto (pc := 37) (tgt := 15) (by decide) dX8_init_37 ?_
  refine ev_iload_n (pc := 15) (i := 1) rfl rfl dX8_init_15 ?_
  refine ev_bipush (pc := 16) (v := 64) (by decide) dX8_init_16 ?_
  refine ev_ic_ge (pc := 18) (tgt := 40) (by decide) dX8_init_18 (fun c498 => absurd c498 (by decide)) (fun c498 => ?_)
  refine ev_aload_n (pc := 21) (i := 0) rfl rfl rfl dX8_init_21 ?_
  obtain ⟨g499, h500⟩ := qk_el h497; clear h497
  obtain ⟨b501, e502, h503⟩ := qP_el h500; clear h500
  refine xv_getP (pc := 22) fn_600 (isb_el g499) e502 gw_237 dX8_init_22 ?_
  refine ev_iload_n (pc := 25) (i := 1) rfl rfl dX8_init_25 ?_
  obtain ⟨g504, h505⟩ := qk_el h503; clear h503
  obtain ⟨b506, e507, h508⟩ := qv_el h505; clear h505
  obtain ⟨S509, e510, h511⟩ := qv_el h508; clear h508
  refine yv_new (pc := 26) (k := 45) (j := 405) (ci := 0) g504 (by decide) e507 e510 gw_200 gw_202 gw_8 dX8_init_26 ?_
  refine ev_dup (pc := 29) (.inr rfl) dX8_init_29 ?_
  obtain ⟨x512, S513, e514, h515⟩ := qc_el h511; clear h511
  refine xv_callI (pc := 30) (st := [.ref b506, .int 18, .ref b501]) (as := []) (v := none) (S' := S513) ok_X0_init (e_X0_init e514) (by decide) (by decide) (by decide) rfl (Nat.le_of_ble_eq_true rfl) rfl gw_203 dX8_init_30 ?_
  obtain ⟨g516, h517⟩ := qk_el h515; clear h515
  obtain ⟨g518, h519⟩ := qk_el h517; clear h517
  obtain ⟨g520, h521⟩ := qk_el h519; clear h519
  obtain ⟨S522, e523, h524⟩ := qv_el h521; clear h521
  refine yv_aast (pc := 33) (isb_el g516) (by decide) (isb_el g518) (inb_el g520) e523 dX8_init_33 ?_
  refine ev_iinc (pc := 34) (L' := [some (.ref a), some (.int 19)]) (i := 1) (v := 19) rfl (by decide) (by decide) rfl rfl dX8_init_34 ?_
  refine ev_goto (pc := 37) (tgt := 15) (by decide) dX8_init_37 ?_
  refine ev_iload_n (pc := 15) (i := 1) rfl rfl dX8_init_15 ?_
  refine ev_bipush (pc := 16) (v := 64) (by decide) dX8_init_16 ?_
  refine ev_ic_ge (pc := 18) (tgt := 40) (by decide) dX8_init_18 (fun c525 => absurd c525 (by decide)) (fun c525 => ?_)
  refine ev_aload_n (pc := 21) (i := 0) rfl rfl rfl dX8_init_21 ?_
  obtain ⟨g526, h527⟩ := qk_el h524; clear h524
  obtain ⟨b528, e529, h530⟩ := qP_el h527; clear h527
  refine xv_getP (pc := 22) fn_600 (isb_el g526) e529 gw_237 dX8_init_22 ?_
  refine ev_iload_n (pc := 25) (i := 1) rfl rfl dX8_init_25 ?_
  obtain ⟨g531, h532⟩ := qk_el h530; clear h530
  obtain ⟨b533, e534, h535⟩ := qv_el h532; clear h532
  obtain ⟨S536, e537, h538⟩ := qv_el h535; clear h535
  refine yv_new (pc := 26) (k := 44) (j := 396) (ci := 0) g531 (by decide) e534 e537 gw_200 gw_202 gw_8 dX8_init_26 ?_
  refine ev_dup (pc := 29) (.inr rfl) dX8_init_29 ?_
  obtain ⟨x539, S540, e541, h542⟩ := qc_el h538; clear h538
  refine xv_callI (pc := 30) (st := [.ref b533, .int 19, .ref b528]) (as := []) (v := none) (S' := S540) ok_X0_init (e_X0_init e541) (by decide) (by decide) (by decide) rfl (Nat.le_of_ble_eq_true rfl) rfl gw_203 dX8_init_30 ?_
  obtain ⟨g543, h544⟩ := qk_el h542; clear h542
  obtain ⟨g545, h546⟩ := qk_el h544; clear h544
  obtain ⟨g547, h548⟩ := qk_el h546; clear h546
  obtain ⟨S549, e550, h551⟩ := qv_el h548; clear h548
  refine yv_aast (pc := 33) (isb_el g543) (by decide) (isb_el g545) (inb_el g547) e550 dX8_init_33 ?_
  refine ev_iinc (pc := 34) (L' := [some (.ref a), some (.int 20)]) (i := 1) (v := 20) rfl (by decide) (by decide) rfl rfl dX8_init_34 ?_
  refine ev_goto (pc := 37) (tgt := 15) (by decide) dX8_init_37 ?_
  refine ev_iload_n (pc := 15) (i := 1) rfl rfl dX8_init_15 ?_
  refine ev_bipush (pc := 16) (v := 64) (by decide) dX8_init_16 ?_
  refine ev_ic_ge (pc := 18) (tgt := 40) (by decide) dX8_init_18 (fun c552 => absurd c552 (by decide)) (fun c552 => ?_)
  refine ev_aload_n (pc := 21) (i := 0) rfl rfl rfl dX8_init_21 ?_
  obtain ⟨g553, h554⟩ := qk_el h551; clear h551
  obtain ⟨b555, e556, h557⟩ := qP_el h554; clear h554
  refine xv_getP (pc := 22) fn_600 (isb_el g553) e556 gw_237 dX8_init_22 ?_
  refine ev_iload_n (pc := 25) (i := 1) rfl rfl dX8_init_25 ?_
  obtain ⟨g558, h559⟩ := qk_el h557; clear h557
  obtain ⟨b560, e561, h562⟩ := qv_el h559; clear h559
  obtain ⟨S563, e564, h565⟩ := qv_el h562; clear h562
  refine yv_new (pc := 26) (k := 43) (j := 387) (ci := 0) g558 (by decide) e561 e564 gw_200 gw_202 gw_8 dX8_init_26 ?_
  refine ev_dup (pc := 29) (.inr rfl) dX8_init_29 ?_
  obtain ⟨x566, S567, e568, h569⟩ := qc_el h565; clear h565
  refine xv_callI (pc := 30) (st := [.ref b560, .int 20, .ref b555]) (as := []) (v := none) (S' := S567) ok_X0_init (e_X0_init e568) (by decide) (by decide) (by decide) rfl (Nat.le_of_ble_eq_true rfl) rfl gw_203 dX8_init_30 ?_
  obtain ⟨g570, h571⟩ := qk_el h569; clear h569
  obtain ⟨g572, h573⟩ := qk_el h571; clear h571
  obtain ⟨g574, h575⟩ := qk_el h573; clear h573
  obtain ⟨S576, e577, h578⟩ := qv_el h575; clear h575
  refine yv_aast (pc := 33) (isb_el g570) (by decide) (isb_el g572) (inb_el g574) e577 dX8_init_33 ?_
  refine ev_iinc (pc := 34) (L' := [some (.ref a), some (.int 21)]) (i := 1) (v := 21) rfl (by decide) (by decide) rfl rfl dX8_init_34 ?_
  refine ev_goto (pc := 37) (tgt := 15) (by decide) dX8_init_37 ?_
  refine ev_iload_n (pc := 15) (i := 1) rfl rfl dX8_init_15 ?_
  refine ev_bipush (pc := 16) (v := 64) (by decide) dX8_init_16 ?_
  refine ev_ic_ge (pc := 18) (tgt := 40) (by decide) dX8_init_18 (fun c579 => absurd c579 (by decide)) (fun c579 => ?_)
  refine ev_aload_n (pc := 21) (i := 0) rfl rfl rfl dX8_init_21 ?_
  obtain ⟨g580, h581⟩ := qk_el h578; clear h578
  obtain ⟨b582, e583, h584⟩ := qP_el h581; clear h581
  refine xv_getP (pc := 22) fn_600 (isb_el g580) e583 gw_237 dX8_init_22 ?_
  refine ev_iload_n (pc := 25) (i := 1) rfl rfl dX8_init_25 ?_
  obtain ⟨g585, h586⟩ := qk_el h584; clear h584
  obtain ⟨b587, e588, h589⟩ := qv_el h586; clear h586
  obtain ⟨S590, e591, h592⟩ := qv_el h589; clear h589
  refine yv_new (pc := 26) (k := 42) (j := 378) (ci := 0) g585 (by decide) e588 e591 gw_200 gw_202 gw_8 dX8_init_26 ?_
  refine ev_dup (pc := 29) (.inr rfl) dX8_init_29 ?_
  obtain ⟨x593, S594, e595, h596⟩ := qc_el h592; clear h592
  refine xv_callI (pc := 30) (st := [.ref b587, .int 21, .ref b582]) (as := []) (v := none) (S' := S594) ok_X0_init (e_X0_init e595) (by decide) (by decide) (by decide) rfl (Nat.le_of_ble_eq_true rfl) rfl gw_203 dX8_init_30 ?_
  obtain ⟨g597, h598⟩ := qk_el h596; clear h596
  obtain ⟨g599, h600⟩ := qk_el h598; clear h598
  obtain ⟨g601, h602⟩ := qk_el h600; clear h600
  obtain ⟨S603, e604, h605⟩ := qv_el h602; clear h602
  refine yv_aast (pc := 33) (isb_el g597) (by decide) (isb_el g599) (inb_el g601) e604 dX8_init_33 ?_
  refine ev_iinc (pc := 34) (L' := [some (.ref a), some (.int 22)]) (i := 1) (v := 22) rfl (by decide) (by decide) rfl rfl dX8_init_34 ?_
  refine ev_goto (pc := 37) (tgt := 15) (by decide) dX8_init_37 ?_
  refine ev_iload_n (pc := 15) (i := 1) rfl rfl dX8_init_15 ?_
  refine ev_bipush (pc := 16) (v := 64) (by decide) dX8_init_16 ?_
  refine ev_ic_ge (pc := 18) (tgt := 40) (by decide) dX8_init_18 (fun c606 => absurd c606 (by decide)) (fun c606 => ?_)
  refine ev_aload_n (pc := 21) (i := 0) rfl rfl rfl dX8_init_21 ?_
  obtain ⟨g607, h608⟩ := qk_el h605; clear h605
  obtain ⟨b609, e610, h611⟩ := qP_el h608; clear h608
  refine xv_getP (pc := 22) fn_600 (isb_el g607) e610 gw_237 dX8_init_22 ?_
  refine ev_iload_n (pc := 25) (i := 1) rfl rfl dX8_init_25 ?_
  obtain ⟨g612, h613⟩ := qk_el h611; clear h611
  obtain ⟨b614, e615, h616⟩ := qv_el h613; clear h613
  obtain ⟨S617, e618, h619⟩ := qv_el h616; clear h616
  refine yv_new (pc := 26) (k := 41) (j := 369) (ci := 0) g612 (by decide) e615 e618 gw_200 gw_202 gw_8 dX8_init_26 ?_
  refine ev_dup (pc := 29) (.inr rfl) dX8_init_29 ?_
  obtain ⟨x620, S621, e622, h623⟩ := qc_el h619; clear h619
  refine xv_callI (pc := 30) (st := [.ref b614, .int 22, .ref b609]) (as := []) (v := none) (S' := S621) ok_X0_init (e_X0_init e622) (by decide) (by decide) (by decide) rfl (Nat.le_of_ble_eq_true rfl) rfl gw_203 dX8_init_30 ?_
  obtain ⟨g624, h625⟩ := qk_el h623; clear h623
  obtain ⟨g626, h627⟩ := qk_el h625; clear h625
  obtain ⟨g628, h629⟩ := qk_el h627; clear h627
  obtain ⟨S630, e631, h632⟩ := qv_el h629; clear h629
  refine yv_aast (pc := 33) (isb_el g624) (by decide) (isb_el g626) (inb_el g628) e631 dX8_init_33 ?_
  refine ev_iinc (pc := 34) (L' := [some (.ref a), some (.int 23)]) (i := 1) (v := 23) rfl (by decide) (by decide) rfl rfl dX8_init_34 ?_
  refine ev_goto (pc := 37) (tgt := 15) (by decide) dX8_init_37 ?_
  refine ev_iload_n (pc := 15) (i := 1) rfl rfl dX8_init_15 ?_
  refine ev_bipush (pc := 16) (v := 64) (by decide) dX8_init_16 ?_
  refine ev_ic_ge (pc := 18) (tgt := 40) (by decide) dX8_init_18 (fun c633 => absurd c633 (by decide)) (fun c633 => ?_)
  refine ev_aload_n (pc := 21) (i := 0) rfl rfl rfl dX8_init_21 ?_
  obtain ⟨g634, h635⟩ := qk_el h632; clear h632
  obtain ⟨b636, e637, h638⟩ := qP_el h635; clear h635
  refine xv_getP (pc := 22) fn_600 (isb_el g634) e637 gw_237 dX8_init_22 ?_
  refine ev_iload_n (pc := 25) (i := 1) rfl rfl dX8_init_25 ?_
  obtain ⟨g639, h640⟩ := qk_el h638; clear h638
  obtain ⟨b641, e642, h643⟩ := qv_el h640; clear h640
  obtain ⟨S644, e645, h646⟩ := qv_el h643; clear h643
  refine yv_new (pc := 26) (k := 40) (j := 360) (ci := 0) g639 (by decide) e642 e645 gw_200 gw_202 gw_8 dX8_init_26 ?_
  refine ev_dup (pc := 29) (.inr rfl) dX8_init_29 ?_
  obtain ⟨x647, S648, e649, h650⟩ := qc_el h646; clear h646
  refine xv_callI (pc := 30) (st := [.ref b641, .int 23, .ref b636]) (as := []) (v := none) (S' := S648) ok_X0_init (e_X0_init e649) (by decide) (by decide) (by decide) rfl (Nat.le_of_ble_eq_true rfl) rfl gw_203 dX8_init_30 ?_
  obtain ⟨g651, h652⟩ := qk_el h650; clear h650
  obtain ⟨g653, h654⟩ := qk_el h652; clear h652
  obtain ⟨g655, h656⟩ := qk_el h654; clear h654
  obtain ⟨S657, e658, h659⟩ := qv_el h656; clear h656
  refine yv_aast (pc := 33) (isb_el g651) (by decide) (isb_el g653) (inb_el g655) e658 dX8_init_33 ?_
  refine ev_iinc (pc := 34) (L' := [some (.ref a), some (.int 24)]) (i := 1) (v := 24) rfl (by decide) (by decide) rfl rfl dX8_init_34 ?_
  refine ev_goto (pc := 37) (tgt := 15) (by decide) dX8_init_37 ?_
  refine ev_iload_n (pc := 15) (i := 1) rfl rfl dX8_init_15 ?_
  refine ev_bipush (pc := 16) (v := 64) (by decide) dX8_init_16 ?_
  refine ev_ic_ge (pc := 18) (tgt := 40) (by decide) dX8_init_18 (fun c660 => absurd c660 (by decide)) (fun c660 => ?_)
  refine ev_aload_n (pc := 21) (i := 0) rfl rfl rfl dX8_init_21 ?_
  obtain ⟨g661, h662⟩ := qk_el h659; clear h659
  obtain ⟨b663, e664, h665⟩ := qP_el h662; clear h662
  refine xv_getP (pc := 22) fn_600 (isb_el g661) e664 gw_237 dX8_init_22 ?_
  refine ev_iload_n (pc := 25) (i := 1) rfl rfl dX8_init_25 ?_
  obtain ⟨g666, h667⟩ := qk_el h665; clear h665
  obtain ⟨b668, e669, h670⟩ := qv_el h667; clear h667
  obtain ⟨S671, e672, h673⟩ := qv_el h670; clear h670
  refine yv_new (pc := 26) (k := 39) (j := 351) (ci := 0) g666 (by decide) e669 e672 gw_200 gw_202 gw_8 dX8_init_26 ?_
  refine ev_dup (pc := 29) (.inr rfl) dX8_init_29 ?_
  obtain ⟨x674, S675, e676, h677⟩ := qc_el h673; clear h673
  refine xv_callI (pc := 30) (st := [.ref b668, .int 24, .ref b663]) (as := []) (v := none) (S' := S675) ok_X0_init (e_X0_init e676) (by decide) (by decide) (by decide) rfl (Nat.le_of_ble_eq_true rfl) rfl gw_203 dX8_init_30 ?_
  obtain ⟨g678, h679⟩ := qk_el h677; clear h677
  obtain ⟨g680, h681⟩ := qk_el h679; clear h679
  obtain ⟨g682, h683⟩ := qk_el h681; clear h681
  obtain ⟨S684, e685, h686⟩ := qv_el h683; clear h683
  refine yv_aast (pc := 33) (isb_el g678) (by decide) (isb_el g680) (inb_el g682) e685 dX8_init_33 ?_
  refine ev_iinc (pc := 34) (L' := [some (.ref a), some (.int 25)]) (i := 1) (v := 25) rfl (by decide) (by decide) rfl rfl dX8_init_34 ?_
  refine ev_goto (pc := 37) (tgt := 15) (by decide) dX8_init_37 ?_
  refine ev_iload_n (pc := 15) (i := 1) rfl rfl dX8_init_15 ?_
  refine ev_bipush (pc := 16) (v := 64) (by decide) dX8_init_16 ?_
  refine ev_ic_ge (pc := 18) (tgt := 40) (by decide) dX8_init_18 (fun c687 => absurd c687 (by decide)) (fun c687 => ?_)
  refine ev_aload_n (pc := 21) (i := 0) rfl rfl rfl dX8_init_21 ?_
  obtain ⟨g688, h689⟩ := qk_el h686; clear h686
  obtain ⟨b690, e691, h692⟩ := qP_el h689; clear h689
  refine xv_getP (pc := 22) fn_600 (isb_el g688) e691 gw_237 dX8_init_22 ?_
  refine ev_iload_n (pc := 25) (i := 1) rfl rfl dX8_init_25 ?_
  obtain ⟨g693, h694⟩ := qk_el h692; clear h692
  obtain ⟨b695, e696, h697⟩ := qv_el h694; clear h694
  obtain ⟨S698, e699, h700⟩ := qv_el h697; clear h697
  refine yv_new (pc := 26) (k := 38) (j := 342) (ci := 0) g693 (by decide) e696 e699 gw_200 gw_202 gw_8 dX8_init_26 ?_
  refine ev_dup (pc := 29) (.inr rfl) dX8_init_29 ?_
  obtain ⟨x701, S702, e703, h704⟩ := qc_el h700; clear h700
  refine xv_callI (pc := 30) (st := [.ref b695, .int 25, .ref b690]) (as := []) (v := none) (S' := S702) ok_X0_init (e_X0_init e703) (by decide) (by decide) (by decide) rfl (Nat.le_of_ble_eq_true rfl) rfl gw_203 dX8_init_30 ?_
  obtain ⟨g705, h706⟩ := qk_el h704; clear h704
  obtain ⟨g707, h708⟩ := qk_el h706; clear h706
  obtain ⟨g709, h710⟩ := qk_el h708; clear h708
  obtain ⟨S711, e712, h713⟩ := qv_el h710; clear h710
  refine yv_aast (pc := 33) (isb_el g705) (by decide) (isb_el g707) (inb_el g709) e712 dX8_init_33 ?_
  refine ev_iinc (pc := 34) (L' := [some (.ref a), some (.int 26)]) (i := 1) (v := 26) rfl (by decide) (by decide) rfl rfl dX8_init_34 ?_
  refine ev_goto (pc := 37) (tgt := 15) (by decide) dX8_init_37 ?_
  refine ev_iload_n (pc := 15) (i := 1) rfl rfl dX8_init_15 ?_
  refine ev_bipush (pc := 16) (v := 64) (by decide) dX8_init_16 ?_
  refine ev_ic_ge (pc := 18) (tgt := 40) (by decide) dX8_init_18 (fun c714 => absurd c714 (by decide)) (fun c714 => ?_)
  refine ev_aload_n (pc := 21) (i := 0) rfl rfl rfl dX8_init_21 ?_
  obtain ⟨g715, h716⟩ := qk_el h713; clear h713
  obtain ⟨b717, e718, h719⟩ := qP_el h716; clear h716
  refine xv_getP (pc := 22) fn_600 (isb_el g715) e718 gw_237 dX8_init_22 ?_
  refine ev_iload_n (pc := 25) (i := 1) rfl rfl dX8_init_25 ?_
  obtain ⟨g720, h721⟩ := qk_el h719; clear h719
  obtain ⟨b722, e723, h724⟩ := qv_el h721; clear h721
  obtain ⟨S725, e726, h727⟩ := qv_el h724; clear h724
  refine yv_new (pc := 26) (k := 37) (j := 333) (ci := 0) g720 (by decide) e723 e726 gw_200 gw_202 gw_8 dX8_init_26 ?_
  refine ev_dup (pc := 29) (.inr rfl) dX8_init_29 ?_
  obtain ⟨x728, S729, e730, h731⟩ := qc_el h727; clear h727
  refine xv_callI (pc := 30) (st := [.ref b722, .int 26, .ref b717]) (as := []) (v := none) (S' := S729) ok_X0_init (e_X0_init e730) (by decide) (by decide) (by decide) rfl (Nat.le_of_ble_eq_true rfl) rfl gw_203 dX8_init_30 ?_
  obtain ⟨g732, h733⟩ := qk_el h731; clear h731
  obtain ⟨g734, h735⟩ := qk_el h733; clear h733
  obtain ⟨g736, h737⟩ := qk_el h735; clear h735
  obtain ⟨S738, e739, h740⟩ := qv_el h737; clear h737
  refine yv_aast (pc := 33) (isb_el g732) (by decide) (isb_el g734) (inb_el g736) e739 dX8_init_33 ?_
  refine ev_iinc (pc := 34) (L' := [some (.ref a), some (.int 27)]) (i := 1) (v := 27) rfl (by decide) (by decide) rfl rfl dX8_init_34 ?_
  refine ev_goto (pc := 37) (tgt := 15) (by decide) dX8_init_37 ?_
  refine ev_iload_n (pc := 15) (i := 1) rfl rfl dX8_init_15 ?_
  refine ev_bipush (pc := 16) (v := 64) (by decide) dX8_init_16 ?_
  refine ev_ic_ge (pc := 18) (tgt := 40) (by decide) dX8_init_18 (fun c741 => absurd c741 (by decide)) (fun c741 => ?_)
  refine ev_aload_n (pc := 21) (i := 0) rfl rfl rfl dX8_init_21 ?_
  obtain ⟨g742, h743⟩ := qk_el h740; clear h740
  obtain ⟨b744, e745, h746⟩ := qP_el h743; clear h743
  refine xv_getP (pc := 22) fn_600 (isb_el g742) e745 gw_237 dX8_init_22 ?_
  refine ev_iload_n (pc := 25) (i := 1) rfl rfl dX8_init_25 ?_
  obtain ⟨g747, h748⟩ := qk_el h746; clear h746
  obtain ⟨b749, e750, h751⟩ := qv_el h748; clear h748
  obtain ⟨S752, e753, h754⟩ := qv_el h751; clear h751
  refine yv_new (pc := 26) (k := 36) (j := 324) (ci := 0) g747 (by decide) e750 e753 gw_200 gw_202 gw_8 dX8_init_26 ?_
  refine ev_dup (pc := 29) (.inr rfl) dX8_init_29 ?_
  obtain ⟨x755, S756, e757, h758⟩ := qc_el h754; clear h754
  refine xv_callI (pc := 30) (st := [.ref b749, .int 27, .ref b744]) (as := []) (v := none) (S' := S756) ok_X0_init (e_X0_init e757) (by decide) (by decide) (by decide) rfl (Nat.le_of_ble_eq_true rfl) rfl gw_203 dX8_init_30 ?_
  obtain ⟨g759, h760⟩ := qk_el h758; clear h758
  obtain ⟨g761, h762⟩ := qk_el h760; clear h760
  obtain ⟨g763, h764⟩ := qk_el h762; clear h762
  obtain ⟨S765, e766, h767⟩ := qv_el h764; clear h764
  refine yv_aast (pc := 33) (isb_el g759) (by decide) (isb_el g761) (inb_el g763) e766 dX8_init_33 ?_
  refine ev_iinc (pc := 34) (L' := [some (.ref a), some (.int 28)]) (i := 1) (v := 28) rfl (by decide) (by decide) rfl rfl dX8_init_34 ?_
  refine ev_goto (pc := 37) (tgt := 15) (by decide) dX8_init_37 ?_
  refine ev_iload_n (pc := 15) (i := 1) rfl rfl dX8_init_15 ?_
  refine ev_bipush (pc := 16) (v := 64) (by decide) dX8_init_16 ?_
  refine ev_ic_ge (pc := 18) (tgt := 40) (by decide) dX8_init_18 (fun c768 => absurd c768 (by decide)) (fun c768 => ?_)
  refine ev_aload_n (pc := 21) (i := 0) rfl rfl rfl dX8_init_21 ?_
  obtain ⟨g769, h770⟩ := qk_el h767; clear h767
  obtain ⟨b771, e772, h773⟩ := qP_el h770; clear h770
  refine xv_getP (pc := 22) fn_600 (isb_el g769) e772 gw_237 dX8_init_22 ?_
  refine ev_iload_n (pc := 25) (i := 1) rfl rfl dX8_init_25 ?_
  obtain ⟨g774, h775⟩ := qk_el h773; clear h773
  obtain ⟨b776, e777, h778⟩ := qv_el h775; clear h775
  obtain ⟨S779, e780, h781⟩ := qv_el h778; clear h778
  refine yv_new (pc := 26) (k := 35) (j := 315) (ci := 0) g774 (by decide) e777 e780 gw_200 gw_202 gw_8 dX8_init_26 ?_
  refine ev_dup (pc := 29) (.inr rfl) dX8_init_29 ?_
  obtain ⟨x782, S783, e784, h785⟩ := qc_el h781; clear h781
  refine xv_callI (pc := 30) (st := [.ref b776, .int 28, .ref b771]) (as := []) (v := none) (S' := S783) ok_X0_init (e_X0_init e784) (by decide) (by decide) (by decide) rfl (Nat.le_of_ble_eq_true rfl) rfl gw_203 dX8_init_30 ?_
  obtain ⟨g786, h787⟩ := qk_el h785; clear h785
  obtain ⟨g788, h789⟩ := qk_el h787; clear h787
  obtain ⟨g790, h791⟩ := qk_el h789; clear h789
  obtain ⟨S792, e793, h794⟩ := qv_el h791; clear h791
  refine yv_aast (pc := 33) (isb_el g786) (by decide) (isb_el g788) (inb_el g790) e793 dX8_init_33 ?_
  refine ev_iinc (pc := 34) (L' := [some (.ref a), some (.int 29)]) (i := 1) (v := 29) rfl (by decide) (by decide) rfl rfl dX8_init_34 ?_
  refine ev_goto (pc := 37) (tgt := 15) (by decide) dX8_init_37 ?_
  refine ev_iload_n (pc := 15) (i := 1) rfl rfl dX8_init_15 ?_
  refine ev_bipush (pc := 16) (v := 64) (by decide) dX8_init_16 ?_
  refine ev_ic_ge (pc := 18) (tgt := 40) (by decide) dX8_init_18 (fun c795 => absurd c795 (by decide)) (fun c795 => ?_)
  refine ev_aload_n (pc := 21) (i := 0) rfl rfl rfl dX8_init_21 ?_
  obtain ⟨g796, h797⟩ := qk_el h794; clear h794
  obtain ⟨b798, e799, h800⟩ := qP_el h797; clear h797
  refine xv_getP (pc := 22) fn_600 (isb_el g796) e799 gw_237 dX8_init_22 ?_
  refine ev_iload_n (pc := 25) (i := 1) rfl rfl dX8_init_25 ?_
  obtain ⟨g801, h802⟩ := qk_el h800; clear h800
  obtain ⟨b803, e804, h805⟩ := qv_el h802; clear h802
  obtain ⟨S806, e807, h808⟩ := qv_el h805; clear h805
  refine yv_new (pc := 26) (k := 34) (j := 306) (ci := 0) g801 (by decide) e804 e807 gw_200 gw_202 gw_8 dX8_init_26 ?_
  refine ev_dup (pc := 29) (.inr rfl) dX8_init_29 ?_
  obtain ⟨x809, S810, e811, h812⟩ := qc_el h808; clear h808
  refine xv_callI (pc := 30) (st := [.ref b803, .int 29, .ref b798]) (as := []) (v := none) (S' := S810) ok_X0_init (e_X0_init e811) (by decide) (by decide) (by decide) rfl (Nat.le_of_ble_eq_true rfl) rfl gw_203 dX8_init_30 ?_
  obtain ⟨g813, h814⟩ := qk_el h812; clear h812
  obtain ⟨g815, h816⟩ := qk_el h814; clear h814
  obtain ⟨g817, h818⟩ := qk_el h816; clear h816
  obtain ⟨S819, e820, h821⟩ := qv_el h818; clear h818
  refine yv_aast (pc := 33) (isb_el g813) (by decide) (isb_el g815) (inb_el g817) e820 dX8_init_33 ?_
  refine ev_iinc (pc := 34) (L' := [some (.ref a), some (.int 30)]) (i := 1) (v := 30) rfl (by decide) (by decide) rfl rfl dX8_init_34 ?_
  refine ev_goto (pc := 37) (tgt := 15) (by decide) dX8_init_37 ?_
  refine ev_iload_n (pc := 15) (i := 1) rfl rfl dX8_init_15 ?_
  refine ev_bipush (pc := 16) (v := 64) (by decide) dX8_init_16 ?_
  refine ev_ic_ge (pc := 18) (tgt := 40) (by decide) dX8_init_18 (fun c822 => absurd c822 (by decide)) (fun c822 => ?_)
  refine ev_aload_n (pc := 21) (i := 0) rfl rfl rfl dX8_init_21 ?_
  obtain ⟨g823, h824⟩ := qk_el h821; clear h821
  obtain ⟨b825, e826, h827⟩ := qP_el h824; clear h824
  refine xv_getP (pc := 22) fn_600 (isb_el g823) e826 gw_237 dX8_init_22 ?_
  refine ev_iload_n (pc := 25) (i := 1) rfl rfl dX8_init_25 ?_
  obtain ⟨g828, h829⟩ := qk_el h827; clear h827
  obtain ⟨b830, e831, h832⟩ := qv_el h829; clear h829
  obtain ⟨S833, e834, h835⟩ := qv_el h832; clear h832
  refine yv_new (pc := 26) (k := 33) (j := 297) (ci := 0) g828 (by decide) e831 e834 gw_200 gw_202 gw_8 dX8_init_26 ?_
  refine ev_dup (pc := 29) (.inr rfl) dX8_init_29 ?_
  obtain ⟨x836, S837, e838, h839⟩ := qc_el h835; clear h835
  refine xv_callI (pc := 30) (st := [.ref b830, .int 30, .ref b825]) (as := []) (v := none) (S' := S837) ok_X0_init (e_X0_init e838) (by decide) (by decide) (by decide) rfl (Nat.le_of_ble_eq_true rfl) rfl gw_203 dX8_init_30 ?_
  obtain ⟨g840, h841⟩ := qk_el h839; clear h839
  obtain ⟨g842, h843⟩ := qk_el h841; clear h841
  obtain ⟨g844, h845⟩ := qk_el h843; clear h843
  obtain ⟨S846, e847, h848⟩ := qv_el h845; clear h845
  refine yv_aast (pc := 33) (isb_el g840) (by decide) (isb_el g842) (inb_el g844) e847 dX8_init_33 ?_
  refine ev_iinc (pc := 34) (L' := [some (.ref a), some (.int 31)]) (i := 1) (v := 31) rfl (by decide) (by decide) rfl rfl dX8_init_34 ?_
  refine ev_goto (pc := 37) (tgt := 15) (by decide) dX8_init_37 ?_
  refine ev_iload_n (pc := 15) (i := 1) rfl rfl dX8_init_15 ?_
  refine ev_bipush (pc := 16) (v := 64) (by decide) dX8_init_16 ?_
  refine ev_ic_ge (pc := 18) (tgt := 40) (by decide) dX8_init_18 (fun c849 => absurd c849 (by decide)) (fun c849 => ?_)
  refine ev_aload_n (pc := 21) (i := 0) rfl rfl rfl dX8_init_21 ?_
  obtain ⟨g850, h851⟩ := qk_el h848; clear h848
  obtain ⟨b852, e853, h854⟩ := qP_el h851; clear h851
  refine xv_getP (pc := 22) fn_600 (isb_el g850) e853 gw_237 dX8_init_22 ?_
  refine ev_iload_n (pc := 25) (i := 1) rfl rfl dX8_init_25 ?_
  obtain ⟨g855, h856⟩ := qk_el h854; clear h854
  obtain ⟨b857, e858, h859⟩ := qv_el h856; clear h856
  obtain ⟨S860, e861, h862⟩ := qv_el h859; clear h859
  refine yv_new (pc := 26) (k := 32) (j := 288) (ci := 0) g855 (by decide) e858 e861 gw_200 gw_202 gw_8 dX8_init_26 ?_
  refine ev_dup (pc := 29) (.inr rfl) dX8_init_29 ?_
  obtain ⟨x863, S864, e865, h866⟩ := qc_el h862; clear h862
  refine xv_callI (pc := 30) (st := [.ref b857, .int 31, .ref b852]) (as := []) (v := none) (S' := S864) ok_X0_init (e_X0_init e865) (by decide) (by decide) (by decide) rfl (Nat.le_of_ble_eq_true rfl) rfl gw_203 dX8_init_30 ?_
  obtain ⟨g867, h868⟩ := qk_el h866; clear h866
  obtain ⟨g869, h870⟩ := qk_el h868; clear h868
  obtain ⟨g871, h872⟩ := qk_el h870; clear h870
  obtain ⟨S873, e874, h875⟩ := qv_el h872; clear h872
  refine yv_aast (pc := 33) (isb_el g867) (by decide) (isb_el g869) (inb_el g871) e874 dX8_init_33 ?_
  refine ev_iinc (pc := 34) (L' := [some (.ref a), some (.int 32)]) (i := 1) (v := 32) rfl (by decide) (by decide) rfl rfl dX8_init_34 ?_
  refine ev_goto (pc := 37) (tgt := 15) (by decide) dX8_init_37 ?_
  refine ev_iload_n (pc := 15) (i := 1) rfl rfl dX8_init_15 ?_
  refine ev_bipush (pc := 16) (v := 64) (by decide) dX8_init_16 ?_
  refine ev_ic_ge (pc := 18) (tgt := 40) (by decide) dX8_init_18 (fun c876 => absurd c876 (by decide)) (fun c876 => ?_)
  refine ev_aload_n (pc := 21) (i := 0) rfl rfl rfl dX8_init_21 ?_
  obtain ⟨g877, h878⟩ := qk_el h875; clear h875
  obtain ⟨b879, e880, h881⟩ := qP_el h878; clear h878
  refine xv_getP (pc := 22) fn_600 (isb_el g877) e880 gw_237 dX8_init_22 ?_
  refine ev_iload_n (pc := 25) (i := 1) rfl rfl dX8_init_25 ?_
  obtain ⟨g882, h883⟩ := qk_el h881; clear h881
  obtain ⟨b884, e885, h886⟩ := qv_el h883; clear h883
  obtain ⟨S887, e888, h889⟩ := qv_el h886; clear h886
  refine yv_new (pc := 26) (k := 31) (j := 279) (ci := 0) g882 (by decide) e885 e888 gw_200 gw_202 gw_8 dX8_init_26 ?_
  refine ev_dup (pc := 29) (.inr rfl) dX8_init_29 ?_
  obtain ⟨x890, S891, e892, h893⟩ := qc_el h889; clear h889
  refine xv_callI (pc := 30) (st := [.ref b884, .int 32, .ref b879]) (as := []) (v := none) (S' := S891) ok_X0_init (e_X0_init e892) (by decide) (by decide) (by decide) rfl (Nat.le_of_ble_eq_true rfl) rfl gw_203 dX8_init_30 ?_
  obtain ⟨g894, h895⟩ := qk_el h893; clear h893
  obtain ⟨g896, h897⟩ := qk_el h895; clear h895
  obtain ⟨g898, h899⟩ := qk_el h897; clear h897
  obtain ⟨S900, e901, h902⟩ := qv_el h899; clear h899
  refine yv_aast (pc := 33) (isb_el g894) (by decide) (isb_el g896) (inb_el g898) e901 dX8_init_33 ?_
  refine ev_iinc (pc := 34) (L' := [some (.ref a), some (.int 33)]) (i := 1) (v := 33) rfl (by decide) (by decide) rfl rfl dX8_init_34 ?_
  refine ev_goto (pc := 37) (tgt := 15) (by decide) dX8_init_37 ?_
  refine ev_iload_n (pc := 15) (i := 1) rfl rfl dX8_init_15 ?_
  refine ev_bipush (pc := 16) (v := 64) (by decide) dX8_init_16 ?_
  refine ev_ic_ge (pc := 18) (tgt := 40) (by decide) dX8_init_18 (fun c903 => absurd c903 (by decide)) (fun c903 => ?_)
  refine ev_aload_n (pc := 21) (i := 0) rfl rfl rfl dX8_init_21 ?_
  obtain ⟨g904, h905⟩ := qk_el h902; clear h902
  obtain ⟨b906, e907, h908⟩ := qP_el h905; clear h905
  refine xv_getP (pc := 22) fn_600 (isb_el g904) e907 gw_237 dX8_init_22 ?_
  refine ev_iload_n (pc := 25) (i := 1) rfl rfl dX8_init_25 ?_
  obtain ⟨g909, h910⟩ := qk_el h908; clear h908
  obtain ⟨b911, e912, h913⟩ := qv_el h910; clear h910
  obtain ⟨S914, e915, h916⟩ := qv_el h913; clear h913
  refine yv_new (pc := 26) (k := 30) (j := 270) (ci := 0) g909 (by decide) e912 e915 gw_200 gw_202 gw_8 dX8_init_26 ?_
  refine ev_dup (pc := 29) (.inr rfl) dX8_init_29 ?_
  obtain ⟨x917, S918, e919, h920⟩ := qc_el h916; clear h916
  refine xv_callI (pc := 30) (st := [.ref b911, .int 33, .ref b906]) (as := []) (v := none) (S' := S918) ok_X0_init (e_X0_init e919) (by decide) (by decide) (by decide) rfl (Nat.le_of_ble_eq_true rfl) rfl gw_203 dX8_init_30 ?_
  obtain ⟨g921, h922⟩ := qk_el h920; clear h920
  obtain ⟨g923, h924⟩ := qk_el h922; clear h922
  obtain ⟨g925, h926⟩ := qk_el h924; clear h924
  obtain ⟨S927, e928, h929⟩ := qv_el h926; clear h926
  refine yv_aast (pc := 33) (isb_el g921) (by decide) (isb_el g923) (inb_el g925) e928 dX8_init_33 ?_
  refine ev_iinc (pc := 34) (L' := [some (.ref a), some (.int 34)]) (i := 1) (v := 34) rfl (by decide) (by decide) rfl rfl dX8_init_34 ?_
  refine ev_goto (pc := 37) (tgt := 15) (by decide) dX8_init_37 ?_
  refine ev_iload_n (pc := 15) (i := 1) rfl rfl dX8_init_15 ?_
  refine ev_bipush (pc := 16) (v := 64) (by decide) dX8_init_16 ?_
  refine ev_ic_ge (pc := 18) (tgt := 40) (by decide) dX8_init_18 (fun c930 => absurd c930 (by decide)) (fun c930 => ?_)
  refine ev_aload_n (pc := 21) (i := 0) rfl rfl rfl dX8_init_21 ?_
  obtain ⟨g931, h932⟩ := qk_el h929; clear h929
  obtain ⟨b933, e934, h935⟩ := qP_el h932; clear h932
  refine xv_getP (pc := 22) fn_600 (isb_el g931) e934 gw_237 dX8_init_22 ?_
  refine ev_iload_n (pc := 25) (i := 1) rfl rfl dX8_init_25 ?_
  obtain ⟨g936, h937⟩ := qk_el h935; clear h935
  obtain ⟨b938, e939, h940⟩ := qv_el h937; clear h937
  obtain ⟨S941, e942, h943⟩ := qv_el h940; clear h940
  refine yv_new (pc := 26) (k := 29) (j := 261) (ci := 0) g936 (by decide) e939 e942 gw_200 gw_202 gw_8 dX8_init_26 ?_
  refine ev_dup (pc := 29) (.inr rfl) dX8_init_29 ?_
  obtain ⟨x944, S945, e946, h947⟩ := qc_el h943; clear h943
  refine xv_callI (pc := 30) (st := [.ref b938, .int 34, .ref b933]) (as := []) (v := none) (S' := S945) ok_X0_init (e_X0_init e946) (by decide) (by decide) (by decide) rfl (Nat.le_of_ble_eq_true rfl) rfl gw_203 dX8_init_30 ?_
  obtain ⟨g948, h949⟩ := qk_el h947; clear h947
  obtain ⟨g950, h951⟩ := qk_el h949; clear h949
  obtain ⟨g952, h953⟩ := qk_el h951; clear h951
  obtain ⟨S954, e955, h956⟩ := qv_el h953; clear h953
  refine yv_aast (pc := 33) (isb_el g948) (by decide) (isb_el g950) (inb_el g952) e955 dX8_init_33 ?_
  refine ev_iinc (pc := 34) (L' := [some (.ref a), some (.int 35)]) (i := 1) (v := 35) rfl (by decide) (by decide) rfl rfl dX8_init_34 ?_
  refine ev_goto (pc := 37) (tgt := 15) (by decide) dX8_init_37 ?_
  refine ev_iload_n (pc := 15) (i := 1) rfl rfl dX8_init_15 ?_
  refine ev_bipush (pc := 16) (v := 64) (by decide) dX8_init_16 ?_
  refine ev_ic_ge (pc := 18) (tgt := 40) (by decide) dX8_init_18 (fun c957 => absurd c957 (by decide)) (fun c957 => ?_)
  refine ev_aload_n (pc := 21) (i := 0) rfl rfl rfl dX8_init_21 ?_
  obtain ⟨g958, h959⟩ := qk_el h956; clear h956
  obtain ⟨b960, e961, h962⟩ := qP_el h959; clear h959
  refine xv_getP (pc := 22) fn_600 (isb_el g958) e961 gw_237 dX8_init_22 ?_
  refine ev_iload_n (pc := 25) (i := 1) rfl rfl dX8_init_25 ?_
  obtain ⟨g963, h964⟩ := qk_el h962; clear h962
  obtain ⟨b965, e966, h967⟩ := qv_el h964; clear h964
  obtain ⟨S968, e969, h970⟩ := qv_el h967; clear h967
  refine yv_new (pc := 26) (k := 28) (j := 252) (ci := 0) g963 (by decide) e966 e969 gw_200 gw_202 gw_8 dX8_init_26 ?_
  refine ev_dup (pc := 29) (.inr rfl) dX8_init_29 ?_
  obtain ⟨x971, S972, e973, h974⟩ := qc_el h970; clear h970
  refine xv_callI (pc := 30) (st := [.ref b965, .int 35, .ref b960]) (as := []) (v := none) (S' := S972) ok_X0_init (e_X0_init e973) (by decide) (by decide) (by decide) rfl (Nat.le_of_ble_eq_true rfl) rfl gw_203 dX8_init_30 ?_
  obtain ⟨g975, h976⟩ := qk_el h974; clear h974
  obtain ⟨g977, h978⟩ := qk_el h976; clear h976
  obtain ⟨g979, h980⟩ := qk_el h978; clear h978
  obtain ⟨S981, e982, h983⟩ := qv_el h980; clear h980
  refine yv_aast (pc := 33) (isb_el g975) (by decide) (isb_el g977) (inb_el g979) e982 dX8_init_33 ?_
  refine ev_iinc (pc := 34) (L' := [some (.ref a), some (.int 36)]) (i := 1) (v := 36) rfl (by decide) (by decide) rfl rfl dX8_init_34 ?_
  refine ev_goto (pc := 37) (tgt := 15) (by decide) dX8_init_37 ?_
  refine ev_iload_n (pc := 15) (i := 1) rfl rfl dX8_init_15 ?_
  refine ev_bipush (pc := 16) (v := 64) (by decide) dX8_init_16 ?_
  refine ev_ic_ge (pc := 18) (tgt := 40) (by decide) dX8_init_18 (fun c984 => absurd c984 (by decide)) (fun c984 => ?_)
  refine ev_aload_n (pc := 21) (i := 0) rfl rfl rfl dX8_init_21 ?_
  obtain ⟨g985, h986⟩ := qk_el h983; clear h983
  obtain ⟨b987, e988, h989⟩ := qP_el h986; clear h986
  refine xv_getP (pc := 22) fn_600 (isb_el g985) e988 gw_237 dX8_init_22 ?_
  refine ev_iload_n (pc := 25) (i := 1) rfl rfl dX8_init_25 ?_
  obtain ⟨g990, h991⟩ := qk_el h989; clear h989
  obtain ⟨b992, e993, h994⟩ := qv_el h991; clear h991
  obtain ⟨S995, e996, h997⟩ := qv_el h994; clear h994
  refine yv_new (pc := 26) (k := 27) (j := 243) (ci := 0) g990 (by decide) e993 e996 gw_200 gw_202 gw_8 dX8_init_26 ?_
  refine ev_dup (pc := 29) (.inr rfl) dX8_init_29 ?_
  obtain ⟨x998, S999, e1000, h1001⟩ := qc_el h997; clear h997
  refine xv_callI (pc := 30) (st := [.ref b992, .int 36, .ref b987]) (as := []) (v := none) (S' := S999) ok_X0_init (e_X0_init e1000) (by decide) (by decide) (by decide) rfl (Nat.le_of_ble_eq_true rfl) rfl gw_203 dX8_init_30 ?_
  obtain ⟨g1002, h1003⟩ := qk_el h1001; clear h1001
  obtain ⟨g1004, h1005⟩ := qk_el h1003; clear h1003
  obtain ⟨g1006, h1007⟩ := qk_el h1005; clear h1005
  obtain ⟨S1008, e1009, h1010⟩ := qv_el h1007; clear h1007
  refine yv_aast (pc := 33) (isb_el g1002) (by decide) (isb_el g1004) (inb_el g1006) e1009 dX8_init_33 ?_
  refine ev_iinc (pc := 34) (L' := [some (.ref a), some (.int 37)]) (i := 1) (v := 37) rfl (by decide) (by decide) rfl rfl dX8_init_34 ?_
  refine ev_goto (pc := 37) (tgt := 15) (by decide) dX8_init_37 ?_
  refine ev_iload_n (pc := 15) (i := 1) rfl rfl dX8_init_15 ?_
  refine ev_bipush (pc := 16) (v := 64) (by decide) dX8_init_16 ?_
  refine ev_ic_ge (pc := 18) (tgt := 40) (by decide) dX8_init_18 (fun c1011 => absurd c1011 (by decide)) (fun c1011 => ?_)
  refine ev_aload_n (pc := 21) (i := 0) rfl rfl rfl dX8_init_21 ?_
  obtain ⟨g1012, h1013⟩ := qk_el h1010; clear h1010
  obtain ⟨b1014, e1015, h1016⟩ := qP_el h1013; clear h1013
  refine xv_getP (pc := 22) fn_600 (isb_el g1012) e1015 gw_237 dX8_init_22 ?_
  refine ev_iload_n (pc := 25) (i := 1) rfl rfl dX8_init_25 ?_
  obtain ⟨g1017, h1018⟩ := qk_el h1016; clear h1016
  obtain ⟨b1019, e1020, h1021⟩ := qv_el h1018; clear h1018
  obtain ⟨S1022, e1023, h1024⟩ := qv_el h1021; clear h1021
  refine yv_new (pc := 26) (k := 26) (j := 234) (ci := 0) g1017 (by decide) e1020 e1023 gw_200 gw_202 gw_8 dX8_init_26 ?_
  refine ev_dup (pc := 29) (.inr rfl) dX8_init_29 ?_
  obtain ⟨x1025, S1026, e1027, h1028⟩ := qc_el h1024; clear h1024
  refine xv_callI (pc := 30) (st := [.ref b1019, .int 37, .ref b1014]) (as := []) (v := none) (S' := S1026) ok_X0_init (e_X0_init e1027) (by decide) (by decide) (by decide) rfl (Nat.le_of_ble_eq_true rfl) rfl gw_203 dX8_init_30 ?_
  obtain ⟨g1029, h1030⟩ := qk_el h1028; clear h1028
  obtain ⟨g1031, h1032⟩ := qk_el h1030; clear h1030
  obtain ⟨g1033, h1034⟩ := qk_el h1032; clear h1032
  obtain ⟨S1035, e1036, h1037⟩ := qv_el h1034; clear h1034
  refine yv_aast (pc := 33) (isb_el g1029) (by decide) (isb_el g1031) (inb_el g1033) e1036 dX8_init_33 ?_
  refine ev_iinc (pc := 34) (L' := [some (.ref a), some (.int 38)]) (i := 1) (v := 38) rfl (by decide) (by decide) rfl rfl dX8_init_34 ?_
  refine ev_goto (pc := 37) (tgt := 15) (by decide) dX8_init_37 ?_
  refine ev_iload_n (pc := 15) (i := 1) rfl rfl dX8_init_15 ?_
  refine ev_bipush (pc := 16) (v := 64) (by decide) dX8_init_16 ?_
  refine ev_ic_ge (pc := 18) (tgt := 40) (by decide) dX8_init_18 (fun c1038 => absurd c1038 (by decide)) (fun c1038 => ?_)
  refine ev_aload_n (pc := 21) (i := 0) rfl rfl rfl dX8_init_21 ?_
  obtain ⟨g1039, h1040⟩ := qk_el h1037; clear h1037
  obtain ⟨b1041, e1042, h1043⟩ := qP_el h1040; clear h1040
  refine xv_getP (pc := 22) fn_600 (isb_el g1039) e1042 gw_237 dX8_init_22 ?_
  refine ev_iload_n (pc := 25) (i := 1) rfl rfl dX8_init_25 ?_
  obtain ⟨g1044, h1045⟩ := qk_el h1043; clear h1043
  obtain ⟨b1046, e1047, h1048⟩ := qv_el h1045; clear h1045
  obtain ⟨S1049, e1050, h1051⟩ := qv_el h1048; clear h1048
  refine yv_new (pc := 26) (k := 25) (j := 225) (ci := 0) g1044 (by decide) e1047 e1050 gw_200 gw_202 gw_8 dX8_init_26 ?_
  refine ev_dup (pc := 29) (.inr rfl) dX8_init_29 ?_
  obtain ⟨x1052, S1053, e1054, h1055⟩ := qc_el h1051; clear h1051
  refine xv_callI (pc := 30) (st := [.ref b1046, .int 38, .ref b1041]) (as := []) (v := none) (S' := S1053) ok_X0_init (e_X0_init e1054) (by decide) (by decide) (by decide) rfl (Nat.le_of_ble_eq_true rfl) rfl gw_203 dX8_init_30 ?_
  obtain ⟨g1056, h1057⟩ := qk_el h1055; clear h1055
  obtain ⟨g1058, h1059⟩ := qk_el h1057; clear h1057
  obtain ⟨g1060, h1061⟩ := qk_el h1059; clear h1059
  obtain ⟨S1062, e1063, h1064⟩ := qv_el h1061; clear h1061
  refine yv_aast (pc := 33) (isb_el g1056) (by decide) (isb_el g1058) (inb_el g1060) e1063 dX8_init_33 ?_
  refine ev_iinc (pc := 34) (L' := [some (.ref a), some (.int 39)]) (i := 1) (v := 39) rfl (by decide) (by decide) rfl rfl dX8_init_34 ?_
  refine ev_goto (pc := 37) (tgt := 15) (by decide) dX8_init_37 ?_
  refine ev_iload_n (pc := 15) (i := 1) rfl rfl dX8_init_15 ?_
  refine ev_bipush (pc := 16) (v := 64) (by decide) dX8_init_16 ?_
  refine ev_ic_ge (pc := 18) (tgt := 40) (by decide) dX8_init_18 (fun c1065 => absurd c1065 (by decide)) (fun c1065 => ?_)
  refine ev_aload_n (pc := 21) (i := 0) rfl rfl rfl dX8_init_21 ?_
  obtain ⟨g1066, h1067⟩ := qk_el h1064; clear h1064
  obtain ⟨b1068, e1069, h1070⟩ := qP_el h1067; clear h1067
  refine xv_getP (pc := 22) fn_600 (isb_el g1066) e1069 gw_237 dX8_init_22 ?_
  refine ev_iload_n (pc := 25) (i := 1) rfl rfl dX8_init_25 ?_
  obtain ⟨g1071, h1072⟩ := qk_el h1070; clear h1070
  obtain ⟨b1073, e1074, h1075⟩ := qv_el h1072; clear h1072
  obtain ⟨S1076, e1077, h1078⟩ := qv_el h1075; clear h1075
  refine yv_new (pc := 26) (k := 24) (j := 216) (ci := 0) g1071 (by decide) e1074 e1077 gw_200 gw_202 gw_8 dX8_init_26 ?_
  refine ev_dup (pc := 29) (.inr rfl) dX8_init_29 ?_
  obtain ⟨x1079, S1080, e1081, h1082⟩ := qc_el h1078; clear h1078
  refine xv_callI (pc := 30) (st := [.ref b1073, .int 39, .ref b1068]) (as := []) (v := none) (S' := S1080) ok_X0_init (e_X0_init e1081) (by decide) (by decide) (by decide) rfl (Nat.le_of_ble_eq_true rfl) rfl gw_203 dX8_init_30 ?_
  obtain ⟨g1083, h1084⟩ := qk_el h1082; clear h1082
  obtain ⟨g1085, h1086⟩ := qk_el h1084; clear h1084
  obtain ⟨g1087, h1088⟩ := qk_el h1086; clear h1086
  obtain ⟨S1089, e1090, h1091⟩ := qv_el h1088; clear h1088
  refine yv_aast (pc := 33) (isb_el g1083) (by decide) (isb_el g1085) (inb_el g1087) e1090 dX8_init_33 ?_
  refine ev_iinc (pc := 34) (L' := [some (.ref a), some (.int 40)]) (i := 1) (v := 40) rfl (by decide) (by decide) rfl rfl dX8_init_34 ?_
  refine ev_goto (pc := 37) (tgt := 15) (by decide) dX8_init_37 ?_
  refine ev_iload_n (pc := 15) (i := 1) rfl rfl dX8_init_15 ?_
  refine ev_bipush (pc := 16) (v := 64) (by decide) dX8_init_16 ?_
  refine ev_ic_ge (pc := 18) (tgt := 40) (by decide) dX8_init_18 (fun c1092 => absurd c1092 (by decide)) (fun c1092 => ?_)
  refine ev_aload_n (pc := 21) (i := 0) rfl rfl rfl dX8_init_21 ?_
  obtain ⟨g1093, h1094⟩ := qk_el h1091; clear h1091
  obtain ⟨b1095, e1096, h1097⟩ := qP_el h1094; clear h1094
  refine xv_getP (pc := 22) fn_600 (isb_el g1093) e1096 gw_237 dX8_init_22 ?_
  refine ev_iload_n (pc := 25) (i := 1) rfl rfl dX8_init_25 ?_
  obtain ⟨g1098, h1099⟩ := qk_el h1097; clear h1097
  obtain ⟨b1100, e1101, h1102⟩ := qv_el h1099; clear h1099
  obtain ⟨S1103, e1104, h1105⟩ := qv_el h1102; clear h1102
  refine yv_new (pc := 26) (k := 23) (j := 207) (ci := 0) g1098 (by decide) e1101 e1104 gw_200 gw_202 gw_8 dX8_init_26 ?_
  refine ev_dup (pc := 29) (.inr rfl) dX8_init_29 ?_
  obtain ⟨x1106, S1107, e1108, h1109⟩ := qc_el h1105; clear h1105
  refine xv_callI (pc := 30) (st := [.ref b1100, .int 40, .ref b1095]) (as := []) (v := none) (S' := S1107) ok_X0_init (e_X0_init e1108) (by decide) (by decide) (by decide) rfl (Nat.le_of_ble_eq_true rfl) rfl gw_203 dX8_init_30 ?_
  obtain ⟨g1110, h1111⟩ := qk_el h1109; clear h1109
  obtain ⟨g1112, h1113⟩ := qk_el h1111; clear h1111
  obtain ⟨g1114, h1115⟩ := qk_el h1113; clear h1113
  obtain ⟨S1116, e1117, h1118⟩ := qv_el h1115; clear h1115
  refine yv_aast (pc := 33) (isb_el g1110) (by decide) (isb_el g1112) (inb_el g1114) e1117 dX8_init_33 ?_
  refine ev_iinc (pc := 34) (L' := [some (.ref a), some (.int 41)]) (i := 1) (v := 41) rfl (by decide) (by decide) rfl rfl dX8_init_34 ?_
  refine ev_goto (pc := 37) (tgt := 15) (by decide) dX8_init_37 ?_
  refine ev_iload_n (pc := 15) (i := 1) rfl rfl dX8_init_15 ?_
  refine ev_bipush (pc := 16) (v := 64) (by decide) dX8_init_16 ?_
  refine ev_ic_ge (pc := 18) (tgt := 40) (by decide) dX8_init_18 (fun c1119 => absurd c1119 (by decide)) (fun c1119 => ?_)
  refine ev_aload_n (pc := 21) (i := 0) rfl rfl rfl dX8_init_21 ?_
  obtain ⟨g1120, h1121⟩ := qk_el h1118; clear h1118
  obtain ⟨b1122, e1123, h1124⟩ := qP_el h1121; clear h1121
  refine xv_getP (pc := 22) fn_600 (isb_el g1120) e1123 gw_237 dX8_init_22 ?_
  refine ev_iload_n (pc := 25) (i := 1) rfl rfl dX8_init_25 ?_
  obtain ⟨g1125, h1126⟩ := qk_el h1124; clear h1124
  obtain ⟨b1127, e1128, h1129⟩ := qv_el h1126; clear h1126
  obtain ⟨S1130, e1131, h1132⟩ := qv_el h1129; clear h1129
  refine yv_new (pc := 26) (k := 22) (j := 198) (ci := 0) g1125 (by decide) e1128 e1131 gw_200 gw_202 gw_8 dX8_init_26 ?_
  refine ev_dup (pc := 29) (.inr rfl) dX8_init_29 ?_
  obtain ⟨x1133, S1134, e1135, h1136⟩ := qc_el h1132; clear h1132
  refine xv_callI (pc := 30) (st := [.ref b1127, .int 41, .ref b1122]) (as := []) (v := none) (S' := S1134) ok_X0_init (e_X0_init e1135) (by decide) (by decide) (by decide) rfl (Nat.le_of_ble_eq_true rfl) rfl gw_203 dX8_init_30 ?_
  obtain ⟨g1137, h1138⟩ := qk_el h1136; clear h1136
  obtain ⟨g1139, h1140⟩ := qk_el h1138; clear h1138
  obtain ⟨g1141, h1142⟩ := qk_el h1140; clear h1140
  obtain ⟨S1143, e1144, h1145⟩ := qv_el h1142; clear h1142
  refine yv_aast (pc := 33) (isb_el g1137) (by decide) (isb_el g1139) (inb_el g1141) e1144 dX8_init_33 ?_
  refine ev_iinc (pc := 34) (L' := [some (.ref a), some (.int 42)]) (i := 1) (v := 42) rfl (by decide) (by decide) rfl rfl dX8_init_34 ?_
  refine ev_goto (pc := 37) (tgt := 15) (by decide) dX8_init_37 ?_
  refine ev_iload_n (pc := 15) (i := 1) rfl rfl dX8_init_15 ?_
  refine ev_bipush (pc := 16) (v := 64) (by decide) dX8_init_16 ?_
  refine ev_ic_ge (pc := 18) (tgt := 40) (by decide) dX8_init_18 (fun c1146 => absurd c1146 (by decide)) (fun c1146 => ?_)
  refine ev_aload_n (pc := 21) (i := 0) rfl rfl rfl dX8_init_21 ?_
  obtain ⟨g1147, h1148⟩ := qk_el h1145; clear h1145
  obtain ⟨b1149, e1150, h1151⟩ := qP_el h1148; clear h1148
  refine xv_getP (pc := 22) fn_600 (isb_el g1147) e1150 gw_237 dX8_init_22 ?_
  refine ev_iload_n (pc := 25) (i := 1) rfl rfl dX8_init_25 ?_
  obtain ⟨g1152, h1153⟩ := qk_el h1151; clear h1151
  obtain ⟨b1154, e1155, h1156⟩ := qv_el h1153; clear h1153
  obtain ⟨S1157, e1158, h1159⟩ := qv_el h1156; clear h1156
  refine yv_new (pc := 26) (k := 21) (j := 189) (ci := 0) g1152 (by decide) e1155 e1158 gw_200 gw_202 gw_8 dX8_init_26 ?_
  refine ev_dup (pc := 29) (.inr rfl) dX8_init_29 ?_
  obtain ⟨x1160, S1161, e1162, h1163⟩ := qc_el h1159; clear h1159
  refine xv_callI (pc := 30) (st := [.ref b1154, .int 42, .ref b1149]) (as := []) (v := none) (S' := S1161) ok_X0_init (e_X0_init e1162) (by decide) (by decide) (by decide) rfl (Nat.le_of_ble_eq_true rfl) rfl gw_203 dX8_init_30 ?_
  obtain ⟨g1164, h1165⟩ := qk_el h1163; clear h1163
  obtain ⟨g1166, h1167⟩ := qk_el h1165; clear h1165
  obtain ⟨g1168, h1169⟩ := qk_el h1167; clear h1167
  obtain ⟨S1170, e1171, h1172⟩ := qv_el h1169; clear h1169
  refine yv_aast (pc := 33) (isb_el g1164) (by decide) (isb_el g1166) (inb_el g1168) e1171 dX8_init_33 ?_
  refine ev_iinc (pc := 34) (L' := [some (.ref a), some (.int 43)]) (i := 1) (v := 43) rfl (by decide) (by decide) rfl rfl dX8_init_34 ?_
  refine ev_goto (pc := 37) (tgt := 15) (by decide) dX8_init_37 ?_
  refine ev_iload_n (pc := 15) (i := 1) rfl rfl dX8_init_15 ?_
  refine ev_bipush (pc := 16) (v := 64) (by decide) dX8_init_16 ?_
  refine ev_ic_ge (pc := 18) (tgt := 40) (by decide) dX8_init_18 (fun c1173 => absurd c1173 (by decide)) (fun c1173 => ?_)
  refine ev_aload_n (pc := 21) (i := 0) rfl rfl rfl dX8_init_21 ?_
  obtain ⟨g1174, h1175⟩ := qk_el h1172; clear h1172
  obtain ⟨b1176, e1177, h1178⟩ := qP_el h1175; clear h1175
  refine xv_getP (pc := 22) fn_600 (isb_el g1174) e1177 gw_237 dX8_init_22 ?_
  refine ev_iload_n (pc := 25) (i := 1) rfl rfl dX8_init_25 ?_
  obtain ⟨g1179, h1180⟩ := qk_el h1178; clear h1178
  obtain ⟨b1181, e1182, h1183⟩ := qv_el h1180; clear h1180
  obtain ⟨S1184, e1185, h1186⟩ := qv_el h1183; clear h1183
  refine yv_new (pc := 26) (k := 20) (j := 180) (ci := 0) g1179 (by decide) e1182 e1185 gw_200 gw_202 gw_8 dX8_init_26 ?_
  refine ev_dup (pc := 29) (.inr rfl) dX8_init_29 ?_
  obtain ⟨x1187, S1188, e1189, h1190⟩ := qc_el h1186; clear h1186
  refine xv_callI (pc := 30) (st := [.ref b1181, .int 43, .ref b1176]) (as := []) (v := none) (S' := S1188) ok_X0_init (e_X0_init e1189) (by decide) (by decide) (by decide) rfl (Nat.le_of_ble_eq_true rfl) rfl gw_203 dX8_init_30 ?_
  obtain ⟨g1191, h1192⟩ := qk_el h1190; clear h1190
  obtain ⟨g1193, h1194⟩ := qk_el h1192; clear h1192
  obtain ⟨g1195, h1196⟩ := qk_el h1194; clear h1194
  obtain ⟨S1197, e1198, h1199⟩ := qv_el h1196; clear h1196
  refine yv_aast (pc := 33) (isb_el g1191) (by decide) (isb_el g1193) (inb_el g1195) e1198 dX8_init_33 ?_
  refine ev_iinc (pc := 34) (L' := [some (.ref a), some (.int 44)]) (i := 1) (v := 44) rfl (by decide) (by decide) rfl rfl dX8_init_34 ?_
  refine ev_goto (pc := 37) (tgt := 15) (by decide) dX8_init_37 ?_
  refine ev_iload_n (pc := 15) (i := 1) rfl rfl dX8_init_15 ?_
  refine ev_bipush (pc := 16) (v := 64) (by decide) dX8_init_16 ?_
  refine ev_ic_ge (pc := 18) (tgt := 40) (by decide) dX8_init_18 (fun c1200 => absurd c1200 (by decide)) (fun c1200 => ?_)
  refine ev_aload_n (pc := 21) (i := 0) rfl rfl rfl dX8_init_21 ?_
  obtain ⟨g1201, h1202⟩ := qk_el h1199; clear h1199
  obtain ⟨b1203, e1204, h1205⟩ := qP_el h1202; clear h1202
  refine xv_getP (pc := 22) fn_600 (isb_el g1201) e1204 gw_237 dX8_init_22 ?_
  refine ev_iload_n (pc := 25) (i := 1) rfl rfl dX8_init_25 ?_
  obtain ⟨g1206, h1207⟩ := qk_el h1205; clear h1205
  obtain ⟨b1208, e1209, h1210⟩ := qv_el h1207; clear h1207
  obtain ⟨S1211, e1212, h1213⟩ := qv_el h1210; clear h1210
  refine yv_new (pc := 26) (k := 19) (j := 171) (ci := 0) g1206 (by decide) e1209 e1212 gw_200 gw_202 gw_8 dX8_init_26 ?_
  refine ev_dup (pc := 29) (.inr rfl) dX8_init_29 ?_
  obtain ⟨x1214, S1215, e1216, h1217⟩ := qc_el h1213; clear h1213
  refine xv_callI (pc := 30) (st := [.ref b1208, .int 44, .ref b1203]) (as := []) (v := none) (S' := S1215) ok_X0_init (e_X0_init e1216) (by decide) (by decide) (by decide) rfl (Nat.le_of_ble_eq_true rfl) rfl gw_203 dX8_init_30 ?_
  obtain ⟨g1218, h1219⟩ := qk_el h1217; clear h1217
  obtain ⟨g1220, h1221⟩ := qk_el h1219; clear h1219
  obtain ⟨g1222, h1223⟩ := qk_el h1221; clear h1221
  obtain ⟨S1224, e1225, h1226⟩ := qv_el h1223; clear h1223
  refine yv_aast (pc := 33) (isb_el g1218) (by decide) (isb_el g1220) (inb_el g1222) e1225 dX8_init_33 ?_
  refine ev_iinc (pc := 34) (L' := [some (.ref a), some (.int 45)]) (i := 1) (v := 45) rfl (by decide) (by decide) rfl rfl dX8_init_34 ?_
  refine ev_goto (pc := 37) (tgt := 15) (by decide) dX8_init_37 ?_
  refine ev_iload_n (pc := 15) (i := 1) rfl rfl dX8_init_15 ?_
  refine ev_bipush (pc := 16) (v := 64) (by decide) dX8_init_16 ?_
  refine ev_ic_ge (pc := 18) (tgt := 40) (by decide) dX8_init_18 (fun c1227 => absurd c1227 (by decide)) (fun c1227 => ?_)
  refine ev_aload_n (pc := 21) (i := 0) rfl rfl rfl dX8_init_21 ?_
  obtain ⟨g1228, h1229⟩ := qk_el h1226; clear h1226
  obtain ⟨b1230, e1231, h1232⟩ := qP_el h1229; clear h1229
  refine xv_getP (pc := 22) fn_600 (isb_el g1228) e1231 gw_237 dX8_init_22 ?_
  refine ev_iload_n (pc := 25) (i := 1) rfl rfl dX8_init_25 ?_
  obtain ⟨g1233, h1234⟩ := qk_el h1232; clear h1232
  obtain ⟨b1235, e1236, h1237⟩ := qv_el h1234; clear h1234
  obtain ⟨S1238, e1239, h1240⟩ := qv_el h1237; clear h1237
  refine yv_new (pc := 26) (k := 18) (j := 162) (ci := 0) g1233 (by decide) e1236 e1239 gw_200 gw_202 gw_8 dX8_init_26 ?_
  refine ev_dup (pc := 29) (.inr rfl) dX8_init_29 ?_
  obtain ⟨x1241, S1242, e1243, h1244⟩ := qc_el h1240; clear h1240
  refine xv_callI (pc := 30) (st := [.ref b1235, .int 45, .ref b1230]) (as := []) (v := none) (S' := S1242) ok_X0_init (e_X0_init e1243) (by decide) (by decide) (by decide) rfl (Nat.le_of_ble_eq_true rfl) rfl gw_203 dX8_init_30 ?_
  obtain ⟨g1245, h1246⟩ := qk_el h1244; clear h1244
  obtain ⟨g1247, h1248⟩ := qk_el h1246; clear h1246
  obtain ⟨g1249, h1250⟩ := qk_el h1248; clear h1248
  obtain ⟨S1251, e1252, h1253⟩ := qv_el h1250; clear h1250
  refine yv_aast (pc := 33) (isb_el g1245) (by decide) (isb_el g1247) (inb_el g1249) e1252 dX8_init_33 ?_
  refine ev_iinc (pc := 34) (L' := [some (.ref a), some (.int 46)]) (i := 1) (v := 46) rfl (by decide) (by decide) rfl rfl dX8_init_34 ?_
  refine ev_goto (pc := 37) (tgt := 15) (by decide) dX8_init_37 ?_
  refine ev_iload_n (pc := 15) (i := 1) rfl rfl dX8_init_15 ?_
  refine ev_bipush (pc := 16) (v := 64) (by decide) dX8_init_16 ?_
  refine ev_ic_ge (pc := 18) (tgt := 40) (by decide) dX8_init_18 (fun c1254 => absurd c1254 (by decide)) (fun c1254 => ?_)
  refine ev_aload_n (pc := 21) (i := 0) rfl rfl rfl dX8_init_21 ?_
  obtain ⟨g1255, h1256⟩ := qk_el h1253; clear h1253
  obtain ⟨b1257, e1258, h1259⟩ := qP_el h1256; clear h1256
  refine xv_getP (pc := 22) fn_600 (isb_el g1255) e1258 gw_237 dX8_init_22 ?_
  refine ev_iload_n (pc := 25) (i := 1) rfl rfl dX8_init_25 ?_
  obtain ⟨g1260, h1261⟩ := qk_el h1259; clear h1259
  obtain ⟨b1262, e1263, h1264⟩ := qv_el h1261; clear h1261
  obtain ⟨S1265, e1266, h1267⟩ := qv_el h1264; clear h1264
  refine yv_new (pc := 26) (k := 17) (j := 153) (ci := 0) g1260 (by decide) e1263 e1266 gw_200 gw_202 gw_8 dX8_init_26 ?_
  refine ev_dup (pc := 29) (.inr rfl) dX8_init_29 ?_
  obtain ⟨x1268, S1269, e1270, h1271⟩ := qc_el h1267; clear h1267
  refine xv_callI (pc := 30) (st := [.ref b1262, .int 46, .ref b1257]) (as := []) (v := none) (S' := S1269) ok_X0_init (e_X0_init e1270) (by decide) (by decide) (by decide) rfl (Nat.le_of_ble_eq_true rfl) rfl gw_203 dX8_init_30 ?_
  obtain ⟨g1272, h1273⟩ := qk_el h1271; clear h1271
  obtain ⟨g1274, h1275⟩ := qk_el h1273; clear h1273
  obtain ⟨g1276, h1277⟩ := qk_el h1275; clear h1275
  obtain ⟨S1278, e1279, h1280⟩ := qv_el h1277; clear h1277
  refine yv_aast (pc := 33) (isb_el g1272) (by decide) (isb_el g1274) (inb_el g1276) e1279 dX8_init_33 ?_
  refine ev_iinc (pc := 34) (L' := [some (.ref a), some (.int 47)]) (i := 1) (v := 47) rfl (by decide) (by decide) rfl rfl dX8_init_34 ?_
  refine ev_goto (pc := 37) (tgt := 15) (by decide) dX8_init_37 ?_
  refine ev_iload_n (pc := 15) (i := 1) rfl rfl dX8_init_15 ?_
  refine ev_bipush (pc := 16) (v := 64) (by decide) dX8_init_16 ?_
  refine ev_ic_ge (pc := 18) (tgt := 40) (by decide) dX8_init_18 (fun c1281 => absurd c1281 (by decide)) (fun c1281 => ?_)
  refine ev_aload_n (pc := 21) (i := 0) rfl rfl rfl dX8_init_21 ?_
  obtain ⟨g1282, h1283⟩ := qk_el h1280; clear h1280
  obtain ⟨b1284, e1285, h1286⟩ := qP_el h1283; clear h1283
  refine xv_getP (pc := 22) fn_600 (isb_el g1282) e1285 gw_237 dX8_init_22 ?_
  refine ev_iload_n (pc := 25) (i := 1) rfl rfl dX8_init_25 ?_
  obtain ⟨g1287, h1288⟩ := qk_el h1286; clear h1286
  obtain ⟨b1289, e1290, h1291⟩ := qv_el h1288; clear h1288
  obtain ⟨S1292, e1293, h1294⟩ := qv_el h1291; clear h1291
  refine yv_new (pc := 26) (k := 16) (j := 144) (ci := 0) g1287 (by decide) e1290 e1293 gw_200 gw_202 gw_8 dX8_init_26 ?_
  refine ev_dup (pc := 29) (.inr rfl) dX8_init_29 ?_
  obtain ⟨x1295, S1296, e1297, h1298⟩ := qc_el h1294; clear h1294
  refine xv_callI (pc := 30) (st := [.ref b1289, .int 47, .ref b1284]) (as := []) (v := none) (S' := S1296) ok_X0_init (e_X0_init e1297) (by decide) (by decide) (by decide) rfl (Nat.le_of_ble_eq_true rfl) rfl gw_203 dX8_init_30 ?_
  obtain ⟨g1299, h1300⟩ := qk_el h1298; clear h1298
  obtain ⟨g1301, h1302⟩ := qk_el h1300; clear h1300
  obtain ⟨g1303, h1304⟩ := qk_el h1302; clear h1302
  obtain ⟨S1305, e1306, h1307⟩ := qv_el h1304; clear h1304
  refine yv_aast (pc := 33) (isb_el g1299) (by decide) (isb_el g1301) (inb_el g1303) e1306 dX8_init_33 ?_
  refine ev_iinc (pc := 34) (L' := [some (.ref a), some (.int 48)]) (i := 1) (v := 48) rfl (by decide) (by decide) rfl rfl dX8_init_34 ?_
  refine ev_goto (pc := 37) (tgt := 15) (by decide) dX8_init_37 ?_
  refine ev_iload_n (pc := 15) (i := 1) rfl rfl dX8_init_15 ?_
  refine ev_bipush (pc := 16) (v := 64) (by decide) dX8_init_16 ?_
  refine ev_ic_ge (pc := 18) (tgt := 40) (by decide) dX8_init_18 (fun c1308 => absurd c1308 (by decide)) (fun c1308 => ?_)
  refine ev_aload_n (pc := 21) (i := 0) rfl rfl rfl dX8_init_21 ?_
  obtain ⟨g1309, h1310⟩ := qk_el h1307; clear h1307
  obtain ⟨b1311, e1312, h1313⟩ := qP_el h1310; clear h1310
  refine xv_getP (pc := 22) fn_600 (isb_el g1309) e1312 gw_237 dX8_init_22 ?_
  refine ev_iload_n (pc := 25) (i := 1) rfl rfl dX8_init_25 ?_
  obtain ⟨g1314, h1315⟩ := qk_el h1313; clear h1313
  obtain ⟨b1316, e1317, h1318⟩ := qv_el h1315; clear h1315
  obtain ⟨S1319, e1320, h1321⟩ := qv_el h1318; clear h1318
  refine yv_new (pc := 26) (k := 15) (j := 135) (ci := 0) g1314 (by decide) e1317 e1320 gw_200 gw_202 gw_8 dX8_init_26 ?_
  refine ev_dup (pc := 29) (.inr rfl) dX8_init_29 ?_
  obtain ⟨x1322, S1323, e1324, h1325⟩ := qc_el h1321; clear h1321
  refine xv_callI (pc := 30) (st := [.ref b1316, .int 48, .ref b1311]) (as := []) (v := none) (S' := S1323) ok_X0_init (e_X0_init e1324) (by decide) (by decide) (by decide) rfl (Nat.le_of_ble_eq_true rfl) rfl gw_203 dX8_init_30 ?_
  obtain ⟨g1326, h1327⟩ := qk_el h1325; clear h1325
  obtain ⟨g1328, h1329⟩ := qk_el h1327; clear h1327
  obtain ⟨g1330, h1331⟩ := qk_el h1329; clear h1329
  obtain ⟨S1332, e1333, h1334⟩ := qv_el h1331; clear h1331
  refine yv_aast (pc := 33) (isb_el g1326) (by decide) (isb_el g1328) (inb_el g1330) e1333 dX8_init_33 ?_
  refine ev_iinc (pc := 34) (L' := [some (.ref a), some (.int 49)]) (i := 1) (v := 49) rfl (by decide) (by decide) rfl rfl dX8_init_34 ?_
  refine ev_goto (pc := 37) (tgt := 15) (by decide) dX8_init_37 ?_
  refine ev_iload_n (pc := 15) (i := 1) rfl rfl dX8_init_15 ?_
  refine ev_bipush (pc := 16) (v := 64) (by decide) dX8_init_16 ?_
  refine ev_ic_ge (pc := 18) (tgt := 40) (by decide) dX8_init_18 (fun c1335 => absurd c1335 (by decide)) (fun c1335 => ?_)
  refine ev_aload_n (pc := 21) (i := 0) rfl rfl rfl dX8_init_21 ?_
  obtain ⟨g1336, h1337⟩ := qk_el h1334; clear h1334
  obtain ⟨b1338, e1339, h1340⟩ := qP_el h1337; clear h1337
  refine xv_getP (pc := 22) fn_600 (isb_el g1336) e1339 gw_237 dX8_init_22 ?_
  refine ev_iload_n (pc := 25) (i := 1) rfl rfl dX8_init_25 ?_
  obtain ⟨g1341, h1342⟩ := qk_el h1340; clear h1340
  obtain ⟨b1343, e1344, h1345⟩ := qv_el h1342; clear h1342
  obtain ⟨S1346, e1347, h1348⟩ := qv_el h1345; clear h1345
  refine yv_new (pc := 26) (k := 14) (j := 126) (ci := 0) g1341 (by decide) e1344 e1347 gw_200 gw_202 gw_8 dX8_init_26 ?_
  refine ev_dup (pc := 29) (.inr rfl) dX8_init_29 ?_
  obtain ⟨x1349, S1350, e1351, h1352⟩ := qc_el h1348; clear h1348
  refine xv_callI (pc := 30) (st := [.ref b1343, .int 49, .ref b1338]) (as := []) (v := none) (S' := S1350) ok_X0_init (e_X0_init e1351) (by decide) (by decide) (by decide) rfl (Nat.le_of_ble_eq_true rfl) rfl gw_203 dX8_init_30 ?_
  obtain ⟨g1353, h1354⟩ := qk_el h1352; clear h1352
  obtain ⟨g1355, h1356⟩ := qk_el h1354; clear h1354
  obtain ⟨g1357, h1358⟩ := qk_el h1356; clear h1356
  obtain ⟨S1359, e1360, h1361⟩ := qv_el h1358; clear h1358
  refine yv_aast (pc := 33) (isb_el g1353) (by decide) (isb_el g1355) (inb_el g1357) e1360 dX8_init_33 ?_
  refine ev_iinc (pc := 34) (L' := [some (.ref a), some (.int 50)]) (i := 1) (v := 50) rfl (by decide) (by decide) rfl rfl dX8_init_34 ?_
  refine ev_goto (pc := 37) (tgt := 15) (by decide) dX8_init_37 ?_
  refine ev_iload_n (pc := 15) (i := 1) rfl rfl dX8_init_15 ?_
  refine ev_bipush (pc := 16) (v := 64) (by decide) dX8_init_16 ?_
  refine ev_ic_ge (pc := 18) (tgt := 40) (by decide) dX8_init_18 (fun c1362 => absurd c1362 (by decide)) (fun c1362 => ?_)
  refine ev_aload_n (pc := 21) (i := 0) rfl rfl rfl dX8_init_21 ?_
  obtain ⟨g1363, h1364⟩ := qk_el h1361; clear h1361
  obtain ⟨b1365, e1366, h1367⟩ := qP_el h1364; clear h1364
  refine xv_getP (pc := 22) fn_600 (isb_el g1363) e1366 gw_237 dX8_init_22 ?_
  refine ev_iload_n (pc := 25) (i := 1) rfl rfl dX8_init_25 ?_
  obtain ⟨g1368, h1369⟩ := qk_el h1367; clear h1367
  obtain ⟨b1370, e1371, h1372⟩ := qv_el h1369; clear h1369
  obtain ⟨S1373, e1374, h1375⟩ := qv_el h1372; clear h1372
  refine yv_new (pc := 26) (k := 13) (j := 117) (ci := 0) g1368 (by decide) e1371 e1374 gw_200 gw_202 gw_8 dX8_init_26 ?_
  refine ev_dup (pc := 29) (.inr rfl) dX8_init_29 ?_
  obtain ⟨x1376, S1377, e1378, h1379⟩ := qc_el h1375; clear h1375
  refine xv_callI (pc := 30) (st := [.ref b1370, .int 50, .ref b1365]) (as := []) (v := none) (S' := S1377) ok_X0_init (e_X0_init e1378) (by decide) (by decide) (by decide) rfl (Nat.le_of_ble_eq_true rfl) rfl gw_203 dX8_init_30 ?_
  obtain ⟨g1380, h1381⟩ := qk_el h1379; clear h1379
  obtain ⟨g1382, h1383⟩ := qk_el h1381; clear h1381
  obtain ⟨g1384, h1385⟩ := qk_el h1383; clear h1383
  obtain ⟨S1386, e1387, h1388⟩ := qv_el h1385; clear h1385
  refine yv_aast (pc := 33) (isb_el g1380) (by decide) (isb_el g1382) (inb_el g1384) e1387 dX8_init_33 ?_
  refine ev_iinc (pc := 34) (L' := [some (.ref a), some (.int 51)]) (i := 1) (v := 51) rfl (by decide) (by decide) rfl rfl dX8_init_34 ?_
  refine ev_goto (pc := 37) (tgt := 15) (by decide) dX8_init_37 ?_
  refine ev_iload_n (pc := 15) (i := 1) rfl rfl dX8_init_15 ?_
  refine ev_bipush (pc := 16) (v := 64) (by decide) dX8_init_16 ?_
  refine ev_ic_ge (pc := 18) (tgt := 40) (by decide) dX8_init_18 (fun c1389 => absurd c1389 (by decide)) (fun c1389 => ?_)
  refine ev_aload_n (pc := 21) (i := 0) rfl rfl rfl dX8_init_21 ?_
  obtain ⟨g1390, h1391⟩ := qk_el h1388; clear h1388
  obtain ⟨b1392, e1393, h1394⟩ := qP_el h1391; clear h1391
  refine xv_getP (pc := 22) fn_600 (isb_el g1390) e1393 gw_237 dX8_init_22 ?_
  refine ev_iload_n (pc := 25) (i := 1) rfl rfl dX8_init_25 ?_
  obtain ⟨g1395, h1396⟩ := qk_el h1394; clear h1394
  obtain ⟨b1397, e1398, h1399⟩ := qv_el h1396; clear h1396
  obtain ⟨S1400, e1401, h1402⟩ := qv_el h1399; clear h1399
  refine yv_new (pc := 26) (k := 12) (j := 108) (ci := 0) g1395 (by decide) e1398 e1401 gw_200 gw_202 gw_8 dX8_init_26 ?_
  refine ev_dup (pc := 29) (.inr rfl) dX8_init_29 ?_
  obtain ⟨x1403, S1404, e1405, h1406⟩ := qc_el h1402; clear h1402
  refine xv_callI (pc := 30) (st := [.ref b1397, .int 51, .ref b1392]) (as := []) (v := none) (S' := S1404) ok_X0_init (e_X0_init e1405) (by decide) (by decide) (by decide) rfl (Nat.le_of_ble_eq_true rfl) rfl gw_203 dX8_init_30 ?_
  obtain ⟨g1407, h1408⟩ := qk_el h1406; clear h1406
  obtain ⟨g1409, h1410⟩ := qk_el h1408; clear h1408
  obtain ⟨g1411, h1412⟩ := qk_el h1410; clear h1410
  obtain ⟨S1413, e1414, h1415⟩ := qv_el h1412; clear h1412
  refine yv_aast (pc := 33) (isb_el g1407) (by decide) (isb_el g1409) (inb_el g1411) e1414 dX8_init_33 ?_
  refine ev_iinc (pc := 34) (L' := [some (.ref a), some (.int 52)]) (i := 1) (v := 52) rfl (by decide) (by decide) rfl rfl dX8_init_34 ?_
  refine ev_goto (pc := 37) (tgt := 15) (by decide) dX8_init_37 ?_
  refine ev_iload_n (pc := 15) (i := 1) rfl rfl dX8_init_15 ?_
  refine ev_bipush (pc := 16) (v := 64) (by decide) dX8_init_16 ?_
  refine ev_ic_ge (pc := 18) (tgt := 40) (by decide) dX8_init_18 (fun c1416 => absurd c1416 (by decide)) (fun c1416 => ?_)
  refine ev_aload_n (pc := 21) (i := 0) rfl rfl rfl dX8_init_21 ?_
  obtain ⟨g1417, h1418⟩ := qk_el h1415; clear h1415
  obtain ⟨b1419, e1420, h1421⟩ := qP_el h1418; clear h1418
  refine xv_getP (pc := 22) fn_600 (isb_el g1417) e1420 gw_237 dX8_init_22 ?_
  refine ev_iload_n (pc := 25) (i := 1) rfl rfl dX8_init_25 ?_
  obtain ⟨g1422, h1423⟩ := qk_el h1421; clear h1421
  obtain ⟨b1424, e1425, h1426⟩ := qv_el h1423; clear h1423
  obtain ⟨S1427, e1428, h1429⟩ := qv_el h1426; clear h1426
  refine yv_new (pc := 26) (k := 11) (j := 99) (ci := 0) g1422 (by decide) e1425 e1428 gw_200 gw_202 gw_8 dX8_init_26 ?_
  refine ev_dup (pc := 29) (.inr rfl) dX8_init_29 ?_
  obtain ⟨x1430, S1431, e1432, h1433⟩ := qc_el h1429; clear h1429
  refine xv_callI (pc := 30) (st := [.ref b1424, .int 52, .ref b1419]) (as := []) (v := none) (S' := S1431) ok_X0_init (e_X0_init e1432) (by decide) (by decide) (by decide) rfl (Nat.le_of_ble_eq_true rfl) rfl gw_203 dX8_init_30 ?_
  obtain ⟨g1434, h1435⟩ := qk_el h1433; clear h1433
  obtain ⟨g1436, h1437⟩ := qk_el h1435; clear h1435
  obtain ⟨g1438, h1439⟩ := qk_el h1437; clear h1437
  obtain ⟨S1440, e1441, h1442⟩ := qv_el h1439; clear h1439
  refine yv_aast (pc := 33) (isb_el g1434) (by decide) (isb_el g1436) (inb_el g1438) e1441 dX8_init_33 ?_
  refine ev_iinc (pc := 34) (L' := [some (.ref a), some (.int 53)]) (i := 1) (v := 53) rfl (by decide) (by decide) rfl rfl dX8_init_34 ?_
  refine ev_goto (pc := 37) (tgt := 15) (by decide) dX8_init_37 ?_
  refine ev_iload_n (pc := 15) (i := 1) rfl rfl dX8_init_15 ?_
  refine ev_bipush (pc := 16) (v := 64) (by decide) dX8_init_16 ?_
  refine ev_ic_ge (pc := 18) (tgt := 40) (by decide) dX8_init_18 (fun c1443 => absurd c1443 (by decide)) (fun c1443 => ?_)
  refine ev_aload_n (pc := 21) (i := 0) rfl rfl rfl dX8_init_21 ?_
  obtain ⟨g1444, h1445⟩ := qk_el h1442; clear h1442
  obtain ⟨b1446, e1447, h1448⟩ := qP_el h1445; clear h1445
  refine xv_getP (pc := 22) fn_600 (isb_el g1444) e1447 gw_237 dX8_init_22 ?_
  refine ev_iload_n (pc := 25) (i := 1) rfl rfl dX8_init_25 ?_
  obtain ⟨g1449, h1450⟩ := qk_el h1448; clear h1448
  obtain ⟨b1451, e1452, h1453⟩ := qv_el h1450; clear h1450
  obtain ⟨S1454, e1455, h1456⟩ := qv_el h1453; clear h1453
  refine yv_new (pc := 26) (k := 10) (j := 90) (ci := 0) g1449 (by decide) e1452 e1455 gw_200 gw_202 gw_8 dX8_init_26 ?_
  refine ev_dup (pc := 29) (.inr rfl) dX8_init_29 ?_
  obtain ⟨x1457, S1458, e1459, h1460⟩ := qc_el h1456; clear h1456
  refine xv_callI (pc := 30) (st := [.ref b1451, .int 53, .ref b1446]) (as := []) (v := none) (S' := S1458) ok_X0_init (e_X0_init e1459) (by decide) (by decide) (by decide) rfl (Nat.le_of_ble_eq_true rfl) rfl gw_203 dX8_init_30 ?_
  obtain ⟨g1461, h1462⟩ := qk_el h1460; clear h1460
  obtain ⟨g1463, h1464⟩ := qk_el h1462; clear h1462
  obtain ⟨g1465, h1466⟩ := qk_el h1464; clear h1464
  obtain ⟨S1467, e1468, h1469⟩ := qv_el h1466; clear h1466
  refine yv_aast (pc := 33) (isb_el g1461) (by decide) (isb_el g1463) (inb_el g1465) e1468 dX8_init_33 ?_
  refine ev_iinc (pc := 34) (L' := [some (.ref a), some (.int 54)]) (i := 1) (v := 54) rfl (by decide) (by decide) rfl rfl dX8_init_34 ?_
  refine ev_goto (pc := 37) (tgt := 15) (by decide) dX8_init_37 ?_
  refine ev_iload_n (pc := 15) (i := 1) rfl rfl dX8_init_15 ?_
  refine ev_bipush (pc := 16) (v := 64) (by decide) dX8_init_16 ?_
  refine ev_ic_ge (pc := 18) (tgt := 40) (by decide) dX8_init_18 (fun c1470 => absurd c1470 (by decide)) (fun c1470 => ?_)
  refine ev_aload_n (pc := 21) (i := 0) rfl rfl rfl dX8_init_21 ?_
  obtain ⟨g1471, h1472⟩ := qk_el h1469; clear h1469
  obtain ⟨b1473, e1474, h1475⟩ := qP_el h1472; clear h1472
  refine xv_getP (pc := 22) fn_600 (isb_el g1471) e1474 gw_237 dX8_init_22 ?_
  refine ev_iload_n (pc := 25) (i := 1) rfl rfl dX8_init_25 ?_
  obtain ⟨g1476, h1477⟩ := qk_el h1475; clear h1475
  obtain ⟨b1478, e1479, h1480⟩ := qv_el h1477; clear h1477
  obtain ⟨S1481, e1482, h1483⟩ := qv_el h1480; clear h1480
  refine yv_new (pc := 26) (k := 9) (j := 81) (ci := 0) g1476 (by decide) e1479 e1482 gw_200 gw_202 gw_8 dX8_init_26 ?_
  refine ev_dup (pc := 29) (.inr rfl) dX8_init_29 ?_
  obtain ⟨x1484, S1485, e1486, h1487⟩ := qc_el h1483; clear h1483
  refine xv_callI (pc := 30) (st := [.ref b1478, .int 54, .ref b1473]) (as := []) (v := none) (S' := S1485) ok_X0_init (e_X0_init e1486) (by decide) (by decide) (by decide) rfl (Nat.le_of_ble_eq_true rfl) rfl gw_203 dX8_init_30 ?_
  obtain ⟨g1488, h1489⟩ := qk_el h1487; clear h1487
  obtain ⟨g1490, h1491⟩ := qk_el h1489; clear h1489
  obtain ⟨g1492, h1493⟩ := qk_el h1491; clear h1491
  obtain ⟨S1494, e1495, h1496⟩ := qv_el h1493; clear h1493
  refine yv_aast (pc := 33) (isb_el g1488) (by decide) (isb_el g1490) (inb_el g1492) e1495 dX8_init_33 ?_
  refine ev_iinc (pc := 34) (L' := [some (.ref a), some (.int 55)]) (i := 1) (v := 55) rfl (by decide) (by decide) rfl rfl dX8_init_34 ?_
  refine ev_goto (pc := 37) (tgt := 15) (by decide) dX8_init_37 ?_
  refine ev_iload_n (pc := 15) (i := 1) rfl rfl dX8_init_15 ?_
  refine ev_bipush (pc := 16) (v := 64) (by decide) dX8_init_16 ?_
  refine ev_ic_ge (pc := 18) (tgt := 40) (by decide) dX8_init_18 (fun c1497 => absurd c1497 (by decide)) (fun c1497 => ?_)
  refine ev_aload_n (pc := 21) (i := 0) rfl rfl rfl dX8_init_21 ?_
  obtain ⟨g1498, h1499⟩ := qk_el h1496; clear h1496
  obtain ⟨b1500, e1501, h1502⟩ := qP_el h1499; clear h1499
  refine xv_getP (pc := 22) fn_600 (isb_el g1498) e1501 gw_237 dX8_init_22 ?_
  refine ev_iload_n (pc := 25) (i := 1) rfl rfl dX8_init_25 ?_
  obtain ⟨g1503, h1504⟩ := qk_el h1502; clear h1502
  obtain ⟨b1505, e1506, h1507⟩ := qv_el h1504; clear h1504
  obtain ⟨S1508, e1509, h1510⟩ := qv_el h1507; clear h1507
  refine yv_new (pc := 26) (k := 8) (j := 72) (ci := 0) g1503 (by decide) e1506 e1509 gw_200 gw_202 gw_8 dX8_init_26 ?_
  refine ev_dup (pc := 29) (.inr rfl) dX8_init_29 ?_
  obtain ⟨x1511, S1512, e1513, h1514⟩ := qc_el h1510; clear h1510
  refine xv_callI (pc := 30) (st := [.ref b1505, .int 55, .ref b1500]) (as := []) (v := none) (S' := S1512) ok_X0_init (e_X0_init e1513) (by decide) (by decide) (by decide) rfl (Nat.le_of_ble_eq_true rfl) rfl gw_203 dX8_init_30 ?_
  obtain ⟨g1515, h1516⟩ := qk_el h1514; clear h1514
  obtain ⟨g1517, h1518⟩ := qk_el h1516; clear h1516
  obtain ⟨g1519, h1520⟩ := qk_el h1518; clear h1518
  obtain ⟨S1521, e1522, h1523⟩ := qv_el h1520; clear h1520
  refine yv_aast (pc := 33) (isb_el g1515) (by decide) (isb_el g1517) (inb_el g1519) e1522 dX8_init_33 ?_
  refine ev_iinc (pc := 34) (L' := [some (.ref a), some (.int 56)]) (i := 1) (v := 56) rfl (by decide) (by decide) rfl rfl dX8_init_34 ?_
  refine ev_goto (pc := 37) (tgt := 15) (by decide) dX8_init_37 ?_
  refine ev_iload_n (pc := 15) (i := 1) rfl rfl dX8_init_15 ?_
  refine ev_bipush (pc := 16) (v := 64) (by decide) dX8_init_16 ?_
  refine ev_ic_ge (pc := 18) (tgt := 40) (by decide) dX8_init_18 (fun c1524 => absurd c1524 (by decide)) (fun c1524 => ?_)
  refine ev_aload_n (pc := 21) (i := 0) rfl rfl rfl dX8_init_21 ?_
  obtain ⟨g1525, h1526⟩ := qk_el h1523; clear h1523
  obtain ⟨b1527, e1528, h1529⟩ := qP_el h1526; clear h1526
  refine xv_getP (pc := 22) fn_600 (isb_el g1525) e1528 gw_237 dX8_init_22 ?_
  refine ev_iload_n (pc := 25) (i := 1) rfl rfl dX8_init_25 ?_
  obtain ⟨g1530, h1531⟩ := qk_el h1529; clear h1529
  obtain ⟨b1532, e1533, h1534⟩ := qv_el h1531; clear h1531
  obtain ⟨S1535, e1536, h1537⟩ := qv_el h1534; clear h1534
  refine yv_new (pc := 26) (k := 7) (j := 63) (ci := 0) g1530 (by decide) e1533 e1536 gw_200 gw_202 gw_8 dX8_init_26 ?_
  refine ev_dup (pc := 29) (.inr rfl) dX8_init_29 ?_
  obtain ⟨x1538, S1539, e1540, h1541⟩ := qc_el h1537; clear h1537
  refine xv_callI (pc := 30) (st := [.ref b1532, .int 56, .ref b1527]) (as := []) (v := none) (S' := S1539) ok_X0_init (e_X0_init e1540) (by decide) (by decide) (by decide) rfl (Nat.le_of_ble_eq_true rfl) rfl gw_203 dX8_init_30 ?_
  obtain ⟨g1542, h1543⟩ := qk_el h1541; clear h1541
  obtain ⟨g1544, h1545⟩ := qk_el h1543; clear h1543
  obtain ⟨g1546, h1547⟩ := qk_el h1545; clear h1545
  obtain ⟨S1548, e1549, h1550⟩ := qv_el h1547; clear h1547
  refine yv_aast (pc := 33) (isb_el g1542) (by decide) (isb_el g1544) (inb_el g1546) e1549 dX8_init_33 ?_
  refine ev_iinc (pc := 34) (L' := [some (.ref a), some (.int 57)]) (i := 1) (v := 57) rfl (by decide) (by decide) rfl rfl dX8_init_34 ?_
  refine ev_goto (pc := 37) (tgt := 15) (by decide) dX8_init_37 ?_
  refine ev_iload_n (pc := 15) (i := 1) rfl rfl dX8_init_15 ?_
  refine ev_bipush (pc := 16) (v := 64) (by decide) dX8_init_16 ?_
  refine ev_ic_ge (pc := 18) (tgt := 40) (by decide) dX8_init_18 (fun c1551 => absurd c1551 (by decide)) (fun c1551 => ?_)
  refine ev_aload_n (pc := 21) (i := 0) rfl rfl rfl dX8_init_21 ?_
  obtain ⟨g1552, h1553⟩ := qk_el h1550; clear h1550
  obtain ⟨b1554, e1555, h1556⟩ := qP_el h1553; clear h1553
  refine xv_getP (pc := 22) fn_600 (isb_el g1552) e1555 gw_237 dX8_init_22 ?_
  refine ev_iload_n (pc := 25) (i := 1) rfl rfl dX8_init_25 ?_
  obtain ⟨g1557, h1558⟩ := qk_el h1556; clear h1556
  obtain ⟨b1559, e1560, h1561⟩ := qv_el h1558; clear h1558
  obtain ⟨S1562, e1563, h1564⟩ := qv_el h1561; clear h1561
  refine yv_new (pc := 26) (k := 6) (j := 54) (ci := 0) g1557 (by decide) e1560 e1563 gw_200 gw_202 gw_8 dX8_init_26 ?_
  refine ev_dup (pc := 29) (.inr rfl) dX8_init_29 ?_
  obtain ⟨x1565, S1566, e1567, h1568⟩ := qc_el h1564; clear h1564
  refine xv_callI (pc := 30) (st := [.ref b1559, .int 57, .ref b1554]) (as := []) (v := none) (S' := S1566) ok_X0_init (e_X0_init e1567) (by decide) (by decide) (by decide) rfl (Nat.le_of_ble_eq_true rfl) rfl gw_203 dX8_init_30 ?_
  obtain ⟨g1569, h1570⟩ := qk_el h1568; clear h1568
  obtain ⟨g1571, h1572⟩ := qk_el h1570; clear h1570
  obtain ⟨g1573, h1574⟩ := qk_el h1572; clear h1572
  obtain ⟨S1575, e1576, h1577⟩ := qv_el h1574; clear h1574
  refine yv_aast (pc := 33) (isb_el g1569) (by decide) (isb_el g1571) (inb_el g1573) e1576 dX8_init_33 ?_
  refine ev_iinc (pc := 34) (L' := [some (.ref a), some (.int 58)]) (i := 1) (v := 58) rfl (by decide) (by decide) rfl rfl dX8_init_34 ?_
  refine ev_goto (pc := 37) (tgt := 15) (by decide) dX8_init_37 ?_
  refine ev_iload_n (pc := 15) (i := 1) rfl rfl dX8_init_15 ?_
  refine ev_bipush (pc := 16) (v := 64) (by decide) dX8_init_16 ?_
  refine ev_ic_ge (pc := 18) (tgt := 40) (by decide) dX8_init_18 (fun c1578 => absurd c1578 (by decide)) (fun c1578 => ?_)
  refine ev_aload_n (pc := 21) (i := 0) rfl rfl rfl dX8_init_21 ?_
  obtain ⟨g1579, h1580⟩ := qk_el h1577; clear h1577
  obtain ⟨b1581, e1582, h1583⟩ := qP_el h1580; clear h1580
  refine xv_getP (pc := 22) fn_600 (isb_el g1579) e1582 gw_237 dX8_init_22 ?_
  refine ev_iload_n (pc := 25) (i := 1) rfl rfl dX8_init_25 ?_
  obtain ⟨g1584, h1585⟩ := qk_el h1583; clear h1583
  obtain ⟨b1586, e1587, h1588⟩ := qv_el h1585; clear h1585
  obtain ⟨S1589, e1590, h1591⟩ := qv_el h1588; clear h1588
  refine yv_new (pc := 26) (k := 5) (j := 45) (ci := 0) g1584 (by decide) e1587 e1590 gw_200 gw_202 gw_8 dX8_init_26 ?_
  refine ev_dup (pc := 29) (.inr rfl) dX8_init_29 ?_
  obtain ⟨x1592, S1593, e1594, h1595⟩ := qc_el h1591; clear h1591
  refine xv_callI (pc := 30) (st := [.ref b1586, .int 58, .ref b1581]) (as := []) (v := none) (S' := S1593) ok_X0_init (e_X0_init e1594) (by decide) (by decide) (by decide) rfl (Nat.le_of_ble_eq_true rfl) rfl gw_203 dX8_init_30 ?_
  obtain ⟨g1596, h1597⟩ := qk_el h1595; clear h1595
  obtain ⟨g1598, h1599⟩ := qk_el h1597; clear h1597
  obtain ⟨g1600, h1601⟩ := qk_el h1599; clear h1599
  obtain ⟨S1602, e1603, h1604⟩ := qv_el h1601; clear h1601
  refine yv_aast (pc := 33) (isb_el g1596) (by decide) (isb_el g1598) (inb_el g1600) e1603 dX8_init_33 ?_
  refine ev_iinc (pc := 34) (L' := [some (.ref a), some (.int 59)]) (i := 1) (v := 59) rfl (by decide) (by decide) rfl rfl dX8_init_34 ?_
  refine ev_goto (pc := 37) (tgt := 15) (by decide) dX8_init_37 ?_
  refine ev_iload_n (pc := 15) (i := 1) rfl rfl dX8_init_15 ?_
  refine ev_bipush (pc := 16) (v := 64) (by decide) dX8_init_16 ?_
  refine ev_ic_ge (pc := 18) (tgt := 40) (by decide) dX8_init_18 (fun c1605 => absurd c1605 (by decide)) (fun c1605 => ?_)
  refine ev_aload_n (pc := 21) (i := 0) rfl rfl rfl dX8_init_21 ?_
  obtain ⟨g1606, h1607⟩ := qk_el h1604; clear h1604
  obtain ⟨b1608, e1609, h1610⟩ := qP_el h1607; clear h1607
  refine xv_getP (pc := 22) fn_600 (isb_el g1606) e1609 gw_237 dX8_init_22 ?_
  refine ev_iload_n (pc := 25) (i := 1) rfl rfl dX8_init_25 ?_
  obtain ⟨g1611, h1612⟩ := qk_el h1610; clear h1610
  obtain ⟨b1613, e1614, h1615⟩ := qv_el h1612; clear h1612
  obtain ⟨S1616, e1617, h1618⟩ := qv_el h1615; clear h1615
  refine yv_new (pc := 26) (k := 4) (j := 36) (ci := 0) g1611 (by decide) e1614 e1617 gw_200 gw_202 gw_8 dX8_init_26 ?_
  refine ev_dup (pc := 29) (.inr rfl) dX8_init_29 ?_
  obtain ⟨x1619, S1620, e1621, h1622⟩ := qc_el h1618; clear h1618
  refine xv_callI (pc := 30) (st := [.ref b1613, .int 59, .ref b1608]) (as := []) (v := none) (S' := S1620) ok_X0_init (e_X0_init e1621) (by decide) (by decide) (by decide) rfl (Nat.le_of_ble_eq_true rfl) rfl gw_203 dX8_init_30 ?_
  obtain ⟨g1623, h1624⟩ := qk_el h1622; clear h1622
  obtain ⟨g1625, h1626⟩ := qk_el h1624; clear h1624
  obtain ⟨g1627, h1628⟩ := qk_el h1626; clear h1626
  obtain ⟨S1629, e1630, h1631⟩ := qv_el h1628; clear h1628
  refine yv_aast (pc := 33) (isb_el g1623) (by decide) (isb_el g1625) (inb_el g1627) e1630 dX8_init_33 ?_
  refine ev_iinc (pc := 34) (L' := [some (.ref a), some (.int 60)]) (i := 1) (v := 60) rfl (by decide) (by decide) rfl rfl dX8_init_34 ?_
  refine ev_goto (pc := 37) (tgt := 15) (by decide) dX8_init_37 ?_
  refine ev_iload_n (pc := 15) (i := 1) rfl rfl dX8_init_15 ?_
  refine ev_bipush (pc := 16) (v := 64) (by decide) dX8_init_16 ?_
  refine ev_ic_ge (pc := 18) (tgt := 40) (by decide) dX8_init_18 (fun c1632 => absurd c1632 (by decide)) (fun c1632 => ?_)
  refine ev_aload_n (pc := 21) (i := 0) rfl rfl rfl dX8_init_21 ?_
  obtain ⟨g1633, h1634⟩ := qk_el h1631; clear h1631
  obtain ⟨b1635, e1636, h1637⟩ := qP_el h1634; clear h1634
  refine xv_getP (pc := 22) fn_600 (isb_el g1633) e1636 gw_237 dX8_init_22 ?_
  refine ev_iload_n (pc := 25) (i := 1) rfl rfl dX8_init_25 ?_
  obtain ⟨g1638, h1639⟩ := qk_el h1637; clear h1637
  obtain ⟨b1640, e1641, h1642⟩ := qv_el h1639; clear h1639
  obtain ⟨S1643, e1644, h1645⟩ := qv_el h1642; clear h1642
  refine yv_new (pc := 26) (k := 3) (j := 27) (ci := 0) g1638 (by decide) e1641 e1644 gw_200 gw_202 gw_8 dX8_init_26 ?_
  refine ev_dup (pc := 29) (.inr rfl) dX8_init_29 ?_
  obtain ⟨x1646, S1647, e1648, h1649⟩ := qc_el h1645; clear h1645
  refine xv_callI (pc := 30) (st := [.ref b1640, .int 60, .ref b1635]) (as := []) (v := none) (S' := S1647) ok_X0_init (e_X0_init e1648) (by decide) (by decide) (by decide) rfl (Nat.le_of_ble_eq_true rfl) rfl gw_203 dX8_init_30 ?_
  obtain ⟨g1650, h1651⟩ := qk_el h1649; clear h1649
  obtain ⟨g1652, h1653⟩ := qk_el h1651; clear h1651
  obtain ⟨g1654, h1655⟩ := qk_el h1653; clear h1653
  obtain ⟨S1656, e1657, h1658⟩ := qv_el h1655; clear h1655
  refine yv_aast (pc := 33) (isb_el g1650) (by decide) (isb_el g1652) (inb_el g1654) e1657 dX8_init_33 ?_
  refine ev_iinc (pc := 34) (L' := [some (.ref a), some (.int 61)]) (i := 1) (v := 61) rfl (by decide) (by decide) rfl rfl dX8_init_34 ?_
  refine ev_goto (pc := 37) (tgt := 15) (by decide) dX8_init_37 ?_
  refine ev_iload_n (pc := 15) (i := 1) rfl rfl dX8_init_15 ?_
  refine ev_bipush (pc := 16) (v := 64) (by decide) dX8_init_16 ?_
  refine ev_ic_ge (pc := 18) (tgt := 40) (by decide) dX8_init_18 (fun c1659 => absurd c1659 (by decide)) (fun c1659 => ?_)
  refine ev_aload_n (pc := 21) (i := 0) rfl rfl rfl dX8_init_21 ?_
  obtain ⟨g1660, h1661⟩ := qk_el h1658; clear h1658
  obtain ⟨b1662, e1663, h1664⟩ := qP_el h1661; clear h1661
  refine xv_getP (pc := 22) fn_600 (isb_el g1660) e1663 gw_237 dX8_init_22 ?_
  refine ev_iload_n (pc := 25) (i := 1) rfl rfl dX8_init_25 ?_
  obtain ⟨g1665, h1666⟩ := qk_el h1664; clear h1664
  obtain ⟨b1667, e1668, h1669⟩ := qv_el h1666; clear h1666
  obtain ⟨S1670, e1671, h1672⟩ := qv_el h1669; clear h1669
  refine yv_new (pc := 26) (k := 2) (j := 18) (ci := 0) g1665 (by decide) e1668 e1671 gw_200 gw_202 gw_8 dX8_init_26 ?_
  refine ev_dup (pc := 29) (.inr rfl) dX8_init_29 ?_
  obtain ⟨x1673, S1674, e1675, h1676⟩ := qc_el h1672; clear h1672
  refine xv_callI (pc := 30) (st := [.ref b1667, .int 61, .ref b1662]) (as := []) (v := none) (S' := S1674) ok_X0_init (e_X0_init e1675) (by decide) (by decide) (by decide) rfl (Nat.le_of_ble_eq_true rfl) rfl gw_203 dX8_init_30 ?_
  obtain ⟨g1677, h1678⟩ := qk_el h1676; clear h1676
  obtain ⟨g1679, h1680⟩ := qk_el h1678; clear h1678
  obtain ⟨g1681, h1682⟩ := qk_el h1680; clear h1680
  obtain ⟨S1683, e1684, h1685⟩ := qv_el h1682; clear h1682
  refine yv_aast (pc := 33) (isb_el g1677) (by decide) (isb_el g1679) (inb_el g1681) e1684 dX8_init_33 ?_
  refine ev_iinc (pc := 34) (L' := [some (.ref a), some (.int 62)]) (i := 1) (v := 62) rfl (by decide) (by decide) rfl rfl dX8_init_34 ?_
  refine ev_goto (pc := 37) (tgt := 15) (by decide) dX8_init_37 ?_
  refine ev_iload_n (pc := 15) (i := 1) rfl rfl dX8_init_15 ?_
  refine ev_bipush (pc := 16) (v := 64) (by decide) dX8_init_16 ?_
  refine ev_ic_ge (pc := 18) (tgt := 40) (by decide) dX8_init_18 (fun c1686 => absurd c1686 (by decide)) (fun c1686 => ?_)
  refine ev_aload_n (pc := 21) (i := 0) rfl rfl rfl dX8_init_21 ?_
  obtain ⟨g1687, h1688⟩ := qk_el h1685; clear h1685
  obtain ⟨b1689, e1690, h1691⟩ := qP_el h1688; clear h1688
  refine xv_getP (pc := 22) fn_600 (isb_el g1687) e1690 gw_237 dX8_init_22 ?_
  refine ev_iload_n (pc := 25) (i := 1) rfl rfl dX8_init_25 ?_
  obtain ⟨g1692, h1693⟩ := qk_el h1691; clear h1691
  obtain ⟨b1694, e1695, h1696⟩ := qv_el h1693; clear h1693
  obtain ⟨S1697, e1698, h1699⟩ := qv_el h1696; clear h1696
  refine yv_new (pc := 26) (k := 1) (j := 9) (ci := 0) g1692 (by decide) e1695 e1698 gw_200 gw_202 gw_8 dX8_init_26 ?_
  refine ev_dup (pc := 29) (.inr rfl) dX8_init_29 ?_
  obtain ⟨x1700, S1701, e1702, h1703⟩ := qc_el h1699; clear h1699
  refine xv_callI (pc := 30) (st := [.ref b1694, .int 62, .ref b1689]) (as := []) (v := none) (S' := S1701) ok_X0_init (e_X0_init e1702) (by decide) (by decide) (by decide) rfl (Nat.le_of_ble_eq_true rfl) rfl gw_203 dX8_init_30 ?_
  obtain ⟨g1704, h1705⟩ := qk_el h1703; clear h1703
  obtain ⟨g1706, h1707⟩ := qk_el h1705; clear h1705
  obtain ⟨g1708, h1709⟩ := qk_el h1707; clear h1707
  obtain ⟨S1710, e1711, h1712⟩ := qv_el h1709; clear h1709
  refine yv_aast (pc := 33) (isb_el g1704) (by decide) (isb_el g1706) (inb_el g1708) e1711 dX8_init_33 ?_
  refine ev_iinc (pc := 34) (L' := [some (.ref a), some (.int 63)]) (i := 1) (v := 63) rfl (by decide) (by decide) rfl rfl dX8_init_34 ?_
  refine ev_goto (pc := 37) (tgt := 15) (by decide) dX8_init_37 ?_
  refine ev_iload_n (pc := 15) (i := 1) rfl rfl dX8_init_15 ?_
  refine ev_bipush (pc := 16) (v := 64) (by decide) dX8_init_16 ?_
  refine ev_ic_ge (pc := 18) (tgt := 40) (by decide) dX8_init_18 (fun c1713 => absurd c1713 (by decide)) (fun c1713 => ?_)
  refine ev_aload_n (pc := 21) (i := 0) rfl rfl rfl dX8_init_21 ?_
  obtain ⟨g1714, h1715⟩ := qk_el h1712; clear h1712
  obtain ⟨b1716, e1717, h1718⟩ := qP_el h1715; clear h1715
  refine xv_getP (pc := 22) fn_600 (isb_el g1714) e1717 gw_237 dX8_init_22 ?_
  refine ev_iload_n (pc := 25) (i := 1) rfl rfl dX8_init_25 ?_
  obtain ⟨g1719, h1720⟩ := qk_el h1718; clear h1718
  obtain ⟨b1721, e1722, h1723⟩ := qv_el h1720; clear h1720
  obtain ⟨S1724, e1725, h1726⟩ := qv_el h1723; clear h1723
  refine yv_new (pc := 26) (k := 0) (j := 0) (ci := 0) g1719 (by decide) e1722 e1725 gw_200 gw_202 gw_8 dX8_init_26 ?_
  refine ev_dup (pc := 29) (.inr rfl) dX8_init_29 ?_
  obtain ⟨x1727, S1728, e1729, h1730⟩ := qc_el h1726; clear h1726
  refine xv_callI (pc := 30) (st := [.ref b1721, .int 63, .ref b1716]) (as := []) (v := none) (S' := S1728) ok_X0_init (e_X0_init e1729) (by decide) (by decide) (by decide) rfl (Nat.le_of_ble_eq_true rfl) rfl gw_203 dX8_init_30 ?_
  obtain ⟨g1731, h1732⟩ := qk_el h1730; clear h1730
  obtain ⟨g1733, h1734⟩ := qk_el h1732; clear h1732
  obtain ⟨g1735, h1736⟩ := qk_el h1734; clear h1734
  obtain ⟨S1737, e1738, h1739⟩ := qv_el h1736; clear h1736
  refine yv_aast (pc := 33) (isb_el g1731) (by decide) (isb_el g1733) (inb_el g1735) e1738 dX8_init_33 ?_
  refine ev_iinc (pc := 34) (L' := [some (.ref a), some (.int 64)]) (i := 1) (v := 64) rfl (by decide) (by decide) rfl rfl dX8_init_34 ?_
  refine ev_goto (pc := 37) (tgt := 15) (by decide) dX8_init_37 ?_
  refine ev_iload_n (pc := 15) (i := 1) rfl rfl dX8_init_15 ?_
  refine ev_bipush (pc := 16) (v := 64) (by decide) dX8_init_16 ?_
  refine ev_ic_ge (pc := 18) (tgt := 40) (by decide) dX8_init_18 (fun c1740 => ?_) (fun c1740 => absurd (by decide) c1740)
  refine ev_aload_n (pc := 40) (i := 0) rfl rfl rfl dX8_init_40 ?_
  refine ev_iconst (pc := 41) (v := 0) (by decide) dX8_init_41 ?_
  obtain ⟨g1741, h1742⟩ := qk_el h1739; clear h1739
  obtain ⟨S1743, e1744, h1745⟩ := qv_el h1742; clear h1742
  refine yv_putI (pc := 42) fn_601 ⟨rfl, rfl⟩ (isb_el g1741) e1744 gw_238 dX8_init_42 ?_
  refine ev_aload_n (pc := 45) (i := 0) rfl rfl rfl dX8_init_45 ?_
  refine ev_bipush (pc := 46) (v := 8) (by decide) dX8_init_46 ?_
  obtain ⟨S1746, e1747, h1748⟩ := qv_el h1745; clear h1745
  refine yv_putI (pc := 48) fn_602 ⟨rfl, rfl⟩ (is_sI (isb_el g1741) e1744) e1747 gw_240 dX8_init_48 ?_
  refine ev_aload_n (pc := 51) (i := 0) rfl rfl rfl dX8_init_51 ?_
  refine ev_iconst (pc := 52) (v := 0) (by decide) dX8_init_52 ?_
  obtain ⟨S1749, e1750, h1751⟩ := qv_el h1748; clear h1748
  refine yv_putI (pc := 53) fn_603 ⟨rfl, rfl⟩ (is_sI (is_sI (isb_el g1741) e1744) e1747) e1750 gw_242 dX8_init_53 ?_
  refine ev_aload_n (pc := 56) (i := 0) rfl rfl rfl dX8_init_56 ?_
  refine ev_iconst (pc := 57) (v := 0) (by decide) dX8_init_57 ?_
  obtain ⟨S1752, e1753, h1754⟩ := qv_el h1751; clear h1751
  refine yv_putI (pc := 58) fn_604 ⟨rfl, rfl⟩ (is_sI (is_sI (is_sI (isb_el g1741) e1744) e1747) e1750) e1753 gw_244 dX8_init_58 ?_
  refine ev_aload_n (pc := 61) (i := 0) rfl rfl rfl dX8_init_61 ?_
  refine ev_iconst (pc := 62) (v := 0) (by decide) dX8_init_62 ?_
  obtain ⟨S1755, e1756, h1757⟩ := qv_el h1754; clear h1754
  refine yv_putI (pc := 63) fn_605 ⟨rfl, rfl⟩ (is_sI (is_sI (is_sI (is_sI (isb_el g1741) e1744) e1747) e1750) e1753) e1756 gw_246 dX8_init_63 ?_
  exact ev_return (pc := 66) rfl (by cases h1757; rfl) dX8_init_66
theorem dX3_init_0 : decode cX3_init 0 = .ok (.aload_n 0, 1) := by decide +kernel
theorem dX3_init_1 : decode cX3_init 1 = .ok (.invokespecial 3, 3) := by decide +kernel
theorem dX3_init_4 : decode cX3_init 4 = .ok (.aload_n 0, 1) := by decide +kernel
theorem dX3_init_5 : decode cX3_init 5 = .ok (.bipush 6, 2) := by decide +kernel
theorem dX3_init_7 : decode cX3_init 7 = .ok (.newarray .long, 2) := by decide +kernel
theorem dX3_init_9 : decode cX3_init 9 = .ok (.putfield 9, 3) := by decide +kernel
theorem dX3_init_12 : decode cX3_init 12 = .ok (.aload_n 0, 1) := by decide +kernel
theorem dX3_init_13 : decode cX3_init 13 = .ok (.iconst 0, 1) := by decide +kernel
theorem dX3_init_14 : decode cX3_init 14 = .ok (.putfield 15, 3) := by decide +kernel
theorem dX3_init_17 : decode cX3_init 17 = .ok (.return_, 1) := by decide +kernel
def f_X3_init (F : Nat) (S : gk_S) (a : Nat) : Option (Unit × gk_S) := qk (tgb S) <| qv (gk_n S) fun b3 => qv (nK S 12 6) fun S6 => qk (isb S6 a 2) <| qv (sP S6 200 a (some b3)) fun S11 => qv (sI S11 201 a 0) fun S14 => some ((), S14)
theorem e_X3_init {X : gk_X} {F : Nat} {S : gk_S} {a : Nat} {r : (Unit × gk_S)} (h0 : f_X3_init F S a = some r) : EvM X m_X3_init 1 1 6 [.ref a] S (qRU r) := by
  unfold f_X3_init at h0
  refine ev_method (by decide +kernel) rfl rfl (Nat.le_of_ble_eq_true rfl) ?_
  show EvW X m_X3_init 1 1 6 0 [some (.ref a)] [] S _
  refine ev_aload_n (pc := 0) (i := 0) rfl rfl rfl dX3_init_0 ?_
  refine ev_objInit (pc := 1) gw_266 gw_31 gw_32 (by decide) (by simp) (by decide) dX3_init_1 ?_
  refine ev_aload_n (pc := 4) (i := 0) rfl rfl rfl dX3_init_4 ?_
  refine ev_bipush (pc := 5) (v := 6) (by decide) dX3_init_5 ?_
  obtain ⟨g1, h2⟩ := qk_el h0; clear h0
  obtain ⟨b3, e4, h5⟩ := qv_el h2; clear h2
  obtain ⟨S6, e7, h8⟩ := qv_el h5; clear h5
  refine yv_newa (pc := 7) (k := 0) (j := 0) (kd := 12) (N := 6) g1 (by simp) e4 e7 gw_89 (by decide) (by decide) (by decide) dX3_init_7 ?_
  obtain ⟨g9, h10⟩ := qk_el h8; clear h8
  obtain ⟨S11, e12, h13⟩ := qv_el h10; clear h10
  refine yv_putPF (pc := 9) fn_200 rfl rfl (isb_el g9) e12 gw_267 dX3_init_9 ?_
  refine ev_aload_n (pc := 12) (i := 0) rfl rfl rfl dX3_init_12 ?_
  refine ev_iconst (pc := 13) (v := 0) (by decide) dX3_init_13 ?_
  obtain ⟨S14, e15, h16⟩ := qv_el h13; clear h13
  refine yv_putI (pc := 14) fn_201 ⟨rfl, rfl⟩ (is_sP (isb_el g9) e12) e15 gw_272 dX3_init_14 ?_
  exact ev_return (pc := 17) rfl (by cases h16; rfl) dX3_init_17
