theorem dL_datagram_0 : decode cL_datagram 0 = .ok (.aload_n 2, 1) := by decide +kernel
theorem dL_datagram_1 : decode cL_datagram 1 = .ok (.iconst 0, 1) := by decide +kernel
theorem dL_datagram_2 : decode cL_datagram 2 = .ok (.aload_n 0, 1) := by decide +kernel
theorem dL_datagram_3 : decode cL_datagram 3 = .ok (.iload_n 1, 1) := by decide +kernel
theorem dL_datagram_4 : decode cL_datagram 4 = .ok (.invokevirtual 54, 3) := by decide +kernel
theorem dL_datagram_7 : decode cL_datagram 7 = .ok (.i2l, 1) := by decide +kernel
theorem dL_datagram_8 : decode cL_datagram 8 = .ok (.lastore, 1) := by decide +kernel
theorem dL_datagram_9 : decode cL_datagram 9 = .ok (.goto 6, 3) := by decide +kernel
theorem dL_datagram_12 : decode cL_datagram 12 = .ok (.astore_n 3, 1) := by decide +kernel
theorem dL_datagram_13 : decode cL_datagram 13 = .ok (.iconst 1, 1) := by decide +kernel
theorem dL_datagram_14 : decode cL_datagram 14 = .ok (.ireturn, 1) := by decide +kernel
theorem dL_datagram_15 : decode cL_datagram 15 = .ok (.iconst 0, 1) := by decide +kernel
theorem dL_datagram_16 : decode cL_datagram 16 = .ok (.ireturn, 1) := by decide +kernel
theorem e_L_datagram {X : gk_X} {F : Nat} {k j : Nat} {S : gk_S} {p0 : Nat} {p1 : Int32} {p2 : Nat} {r : (Int32 × gk_S)} (hb : r.1 = 0 ∨ (1 ≤ k ∧ 6 ≤ j)) (h0 : f_L_datagram F S p0 p1 p2 = some r) : EvM X m_L_datagram 8 k j [.ref p0, .int p1, .ref p2] S (qRI r) := by
  unfold f_L_datagram at h0
  refine ev_methodH (by decide +kernel) (by decide) rfl (Nat.le_of_ble_eq_true rfl) ?_
  show EvW X m_L_datagram 8 k j 0 [some (.ref p0), some (.int p1), some (.ref p2), none] [] S _
  refine ev_aload_n (pc := 0) (i := 2) rfl rfl rfl dL_datagram_0 ?_
  refine ev_iconst (pc := 1) (v := 0) (by decide) dL_datagram_1 ?_
  refine ev_aload_n (pc := 2) (i := 0) rfl rfl rfl dL_datagram_2 ?_
  refine ev_iload_n (pc := 3) (i := 1) rfl rfl dL_datagram_3 ?_
  obtain ⟨g1, h2⟩ := qk_el h0; clear h0
  rcases qh_el h2 with ⟨E7, T8, e5, h6⟩ | ⟨x3, S4, e5, h6⟩
  · by_cases c9 : E7 = gx_A
    · replace h6 := qi_t h6 c9; subst c9
      have hb9 : 1 ≤ k ∧ 6 ≤ j := by cases h6; exact hb.resolve_left (show ¬ (1 : Int32) = 0 by decide)
      refine yv_catV (pc := 4) (st := [.int 0, .ref p2]) (as := [.int p1]) (i9 := 3) (len9 := 1) (pre := []) (suf := []) (x := (0, 9, 12, 34)) (name := "java/lang/IllegalArgumentException") ok_X11_datagram (e_X11_datagram (k := k) (j := j) (fun _ _ => hb9) e5) (isb_el g1) rfl (by intro z hz; cases hz) (by decide) (by decide) (by decide) gw_768 (by decide +kernel) (.inr ⟨3, rfl, rfl, rfl⟩) (by decide) rfl (gl9 rfl) (by decide) rfl (Nat.le_of_ble_eq_true rfl) rfl gw_1015 dL_datagram_4 dL_datagram_12 ?_
      refine ev_iconst (pc := 13) (v := 1) (by decide) dL_datagram_13 ?_
      exact ev_ireturn (pc := 14) rfl rfl (by cases h6; rfl) dL_datagram_14
    replace h6 := qi_f h6 c9
    cases h6
  clear h2
  refine xv_callV (pc := 4) (st := [.int 0, .ref p2]) (as := [.int p1]) (v := (some (.int x3))) (S' := S4) ok_X11_datagram (e_X11_datagram (k := 0) (j := 0) qb_inl e5) (isb_el g1) (by decide) rfl (Nat.le_of_ble_eq_true rfl) rfl gw_1015 dL_datagram_4 ?_
  refine ev_i2l (pc := 7)  dL_datagram_7 ?_
  obtain ⟨g10, h11⟩ := qk_el h6; clear h6
  obtain ⟨g12, h13⟩ := qk_el h11; clear h11
  obtain ⟨S14, e15, h16⟩ := qv_el h13; clear h13
  refine yv_last (pc := 8) (isb_el g10) (inb_el g12) e15 dL_datagram_8 ?_
  refine ev_goto (pc := 9) (tgt := 15) (by decide) dL_datagram_9 ?_
  refine ev_iconst (pc := 15) (v := 0) (by decide) dL_datagram_15 ?_
  exact ev_ireturn (pc := 16) rfl (nar_int _) (qRI_eq h16) dL_datagram_16
theorem dX11_found_0 : decode cX11_found 0 = .ok (.aload_n 0, 1) := by decide +kernel
theorem dX11_found_1 : decode cX11_found 1 = .ok (.getfield 72, 3) := by decide +kernel
theorem dX11_found_4 : decode cX11_found 4 = .ok (.ifCond .eq 13, 3) := by decide +kernel
theorem dX11_found_7 : decode cX11_found 7 = .ok (.iload_n 1, 1) := by decide +kernel
theorem dX11_found_8 : decode cX11_found 8 = .ok (.ifCond .lt 9, 3) := by decide +kernel
theorem dX11_found_11 : decode cX11_found 11 = .ok (.iload_n 1, 1) := by decide +kernel
theorem dX11_found_12 : decode cX11_found 12 = .ok (.bipush 7, 2) := by decide +kernel
theorem dX11_found_14 : decode cX11_found 14 = .ok (.if_icmp .lt 13, 3) := by decide +kernel
theorem dX11_found_17 : decode cX11_found 17 = .ok (.new 112, 3) := by decide +kernel
theorem dX11_found_20 : decode cX11_found 20 = .ok (.dup, 1) := by decide +kernel
theorem dX11_found_21 : decode cX11_found 21 = .ok (.ldc 167, 2) := by decide +kernel
theorem dX11_found_23 : decode cX11_found 23 = .ok (.invokespecial 116, 3) := by decide +kernel
theorem dX11_found_26 : decode cX11_found 26 = .ok (.athrow, 1) := by decide +kernel
theorem dX11_found_27 : decode cX11_found 27 = .ok (.aload_n 0, 1) := by decide +kernel
theorem dX11_found_28 : decode cX11_found 28 = .ok (.getfield 68, 3) := by decide +kernel
theorem dX11_found_31 : decode cX11_found 31 = .ok (.iload_n 1, 1) := by decide +kernel
theorem dX11_found_32 : decode cX11_found 32 = .ok (.laload, 1) := by decide +kernel
theorem dX11_found_33 : decode cX11_found 33 = .ok (.l2i, 1) := by decide +kernel
theorem dX11_found_34 : decode cX11_found 34 = .ok (.ireturn, 1) := by decide +kernel
theorem e_X11_found_17 {X : gk_X} {F : Nat} {k j : Nat}  {S : gk_S} {r : ((Int32 ⊕ String) × gk_S)} (hb : qb r k j) (h0 : f_X11_found_17 F  S = some r) : EvW X m_X11_found 6 k j 17 [none, none] [] S (qXI r) := by
  unfold f_X11_found_17 at h0
  cases h0
  exact ev_throwN (pc := 17) (i := 27) (by decide) rfl rfl rfl rfl gw_680 gw_19 rfl (by decide) (by decide) (qb_inr hb).1 (qb_inr hb).2 rfl dX11_found_17 dX11_found_20 dX11_found_21 dX11_found_23 dX11_found_26
theorem e_X11_found {X : gk_X} {F : Nat} {k j : Nat} {S : gk_S} {a : Nat} {p0 : Int32} {r : ((Int32 ⊕ String) × gk_S)} (hb : qb r k j) (h0 : f_X11_found F S a p0 = some r) : EvM X m_X11_found 6 k j [.ref a, .int p0] S (qXI r) := by
  unfold f_X11_found at h0
  refine ev_method (by decide +kernel) rfl rfl (Nat.le_of_ble_eq_true rfl) ?_
  show EvW X m_X11_found 6 k j 0 [some (.ref a), some (.int p0)] [] S _
  refine ev_aload_n (pc := 0) (i := 0) rfl rfl rfl dX11_found_0 ?_
  obtain ⟨g1, h2⟩ := qk_el h0; clear h0
  obtain ⟨x3, e4, h5⟩ := qv_el h2; clear h2
  refine xv_getIv (pc := 1) fn_811 (isb_el g1) e4 gw_293 dX11_found_1 ?_
  refine ev_if_eq (pc := 4) (tgt := 17) (by decide) dX11_found_4 (fun c6 => ?_) (fun c6 => ?_)
  · replace h5 := qi_t h5 c6
    exact ev_weak (qL_n (qL_n qL_nil)) (e_X11_found_17 hb h5)
  · replace h5 := qi_f h5 c6
    refine ev_iload_n (pc := 7) (i := 1) rfl rfl dX11_found_7 ?_
    refine ev_if_lt (pc := 8) (tgt := 17) (by decide) dX11_found_8 (fun c8 => ?_) (fun c8 => ?_)
    · replace h5 := qi_t h5 c8
      exact ev_weak (qL_n (qL_n qL_nil)) (e_X11_found_17 hb h5)
    · replace h5 := qi_f h5 c8
      refine ev_iload_n (pc := 11) (i := 1) rfl rfl dX11_found_11 ?_
      refine ev_bipush (pc := 12) (v := 7) (by decide) dX11_found_12 ?_
      refine ev_ic_lt (pc := 14) (tgt := 27) (by decide) dX11_found_14 (fun c10 => ?_) (fun c10 => ?_)
      · replace h5 := qi_t h5 c10
        refine ev_aload_n (pc := 27) (i := 0) rfl rfl rfl dX11_found_27 ?_
        obtain ⟨b12, e13, h14⟩ := qP_el h5; clear h5
        refine xv_getP (pc := 28) fn_809 (isb_el g1) e13 gw_291 dX11_found_28 ?_
        refine ev_iload_n (pc := 31) (i := 1) rfl rfl dX11_found_31 ?_
        obtain ⟨g15, h16⟩ := qk_el h14; clear h14
        obtain ⟨g17, h18⟩ := qk_el h16; clear h16
        obtain ⟨x19, e20, h21⟩ := qv_el h18; clear h18
        refine yv_lald (pc := 32) (isb_el g15) (inb_el g17) e20 dX11_found_32 ?_
        refine ev_l2i (pc := 33)  dX11_found_33 ?_
        cases h21
        exact ev_ireturn (pc := 34) rfl (nar_int _) rfl dX11_found_34
      · replace h5 := qi_f h5 c10
        exact ev_weak (qL_n (qL_n qL_nil)) (e_X11_found_17 hb h5)
theorem dL_found_0 : decode cL_found 0 = .ok (.aload_n 2, 1) := by decide +kernel
theorem dL_found_1 : decode cL_found 1 = .ok (.iconst 0, 1) := by decide +kernel
theorem dL_found_2 : decode cL_found 2 = .ok (.aload_n 0, 1) := by decide +kernel
theorem dL_found_3 : decode cL_found 3 = .ok (.iload_n 1, 1) := by decide +kernel
theorem dL_found_4 : decode cL_found 4 = .ok (.invokevirtual 43, 3) := by decide +kernel
theorem dL_found_7 : decode cL_found 7 = .ok (.i2l, 1) := by decide +kernel
theorem dL_found_8 : decode cL_found 8 = .ok (.lastore, 1) := by decide +kernel
theorem dL_found_9 : decode cL_found 9 = .ok (.goto 6, 3) := by decide +kernel
theorem dL_found_12 : decode cL_found 12 = .ok (.astore_n 3, 1) := by decide +kernel
theorem dL_found_13 : decode cL_found 13 = .ok (.iconst 1, 1) := by decide +kernel
theorem dL_found_14 : decode cL_found 14 = .ok (.ireturn, 1) := by decide +kernel
theorem dL_found_15 : decode cL_found 15 = .ok (.iconst 0, 1) := by decide +kernel
theorem dL_found_16 : decode cL_found 16 = .ok (.ireturn, 1) := by decide +kernel
theorem e_L_found {X : gk_X} {F : Nat} {k j : Nat} {S : gk_S} {p0 : Nat} {p1 : Int32} {p2 : Nat} {r : (Int32 × gk_S)} (hb : r.1 = 0 ∨ (1 ≤ k ∧ 6 ≤ j)) (h0 : f_L_found F S p0 p1 p2 = some r) : EvM X m_L_found 7 k j [.ref p0, .int p1, .ref p2] S (qRI r) := by
  unfold f_L_found at h0
  refine ev_methodH (by decide +kernel) (by decide) rfl (Nat.le_of_ble_eq_true rfl) ?_
  show EvW X m_L_found 7 k j 0 [some (.ref p0), some (.int p1), some (.ref p2), none] [] S _
  refine ev_aload_n (pc := 0) (i := 2) rfl rfl rfl dL_found_0 ?_
  refine ev_iconst (pc := 1) (v := 0) (by decide) dL_found_1 ?_
  refine ev_aload_n (pc := 2) (i := 0) rfl rfl rfl dL_found_2 ?_
  refine ev_iload_n (pc := 3) (i := 1) rfl rfl dL_found_3 ?_
  obtain ⟨g1, h2⟩ := qk_el h0; clear h0
  rcases qh_el h2 with ⟨E7, T8, e5, h6⟩ | ⟨x3, S4, e5, h6⟩
  · by_cases c9 : E7 = gx_E
    · replace h6 := qi_t h6 c9; subst c9
      have hb9 : 1 ≤ k ∧ 6 ≤ j := by cases h6; exact hb.resolve_left (show ¬ (1 : Int32) = 0 by decide)
      refine yv_catV (pc := 4) (st := [.int 0, .ref p2]) (as := [.int p1]) (i9 := 3) (len9 := 1) (pre := []) (suf := []) (x := (0, 9, 12, 22)) (name := "java/util/NoSuchElementException") ok_X11_found (e_X11_found (k := k) (j := j) (fun _ _ => hb9) e5) (isb_el g1) rfl (by intro z hz; cases hz) (by decide) (by decide) (by decide) gw_672 (by decide +kernel) (.inr ⟨3, rfl, rfl, rfl⟩) (by decide) rfl (gl9 rfl) (by decide) rfl (Nat.le_of_ble_eq_true rfl) rfl gw_902 dL_found_4 dL_found_12 ?_
      refine ev_iconst (pc := 13) (v := 1) (by decide) dL_found_13 ?_
      exact ev_ireturn (pc := 14) rfl rfl (by cases h6; rfl) dL_found_14
    replace h6 := qi_f h6 c9
    cases h6
  clear h2
  refine xv_callV (pc := 4) (st := [.int 0, .ref p2]) (as := [.int p1]) (v := (some (.int x3))) (S' := S4) ok_X11_found (e_X11_found (k := 0) (j := 0) qb_inl e5) (isb_el g1) (by decide) rfl (Nat.le_of_ble_eq_true rfl) rfl gw_902 dL_found_4 ?_
  refine ev_i2l (pc := 7)  dL_found_7 ?_
  obtain ⟨g10, h11⟩ := qk_el h6; clear h6
  obtain ⟨g12, h13⟩ := qk_el h11; clear h11
  obtain ⟨S14, e15, h16⟩ := qv_el h13; clear h13
  refine yv_last (pc := 8) (isb_el g10) (inb_el g12) e15 dL_found_8 ?_
  refine ev_goto (pc := 9) (tgt := 15) (by decide) dL_found_9 ?_
  refine ev_iconst (pc := 15) (v := 0) (by decide) dL_found_15 ?_
  exact ev_ireturn (pc := 16) rfl (nar_int _) (qRI_eq h16) dL_found_16
theorem dX2_init_0 : decode cX2_init 0 = .ok (.aload_n 0, 1) := by decide +kernel
theorem dX2_init_1 : decode cX2_init 1 = .ok (.invokespecial 1, 3) := by decide +kernel
theorem dX2_init_4 : decode cX2_init 4 = .ok (.aload_n 0, 1) := by decide +kernel
theorem dX2_init_5 : decode cX2_init 5 = .ok (.iload_n 1, 1) := by decide +kernel
theorem dX2_init_6 : decode cX2_init 6 = .ok (.ifCond .le 7, 3) := by decide +kernel
theorem dX2_init_9 : decode cX2_init 9 = .ok (.iload_n 1, 1) := by decide +kernel
theorem dX2_init_10 : decode cX2_init 10 = .ok (.goto 4, 3) := by decide +kernel
theorem dX2_init_13 : decode cX2_init 13 = .ok (.iconst 0, 1) := by decide +kernel
theorem dX2_init_14 : decode cX2_init 14 = .ok (.newarray .byte, 2) := by decide +kernel
theorem dX2_init_16 : decode cX2_init 16 = .ok (.putfield 7, 3) := by decide +kernel
theorem dX2_init_19 : decode cX2_init 19 = .ok (.aload_n 0, 1) := by decide +kernel
theorem dX2_init_20 : decode cX2_init 20 = .ok (.iconst 0, 1) := by decide +kernel
theorem dX2_init_21 : decode cX2_init 21 = .ok (.putfield 13, 3) := by decide +kernel
theorem dX2_init_24 : decode cX2_init 24 = .ok (.return_, 1) := by decide +kernel
theorem e_X2_init_2100 {X : gk_X} {F : Nat} {S : gk_S} {a : Nat} {r : (Unit × gk_S)} (h0 : f_X2_init_2100 F S a = some r) : EvM X m_X2_init 1 1 2100 [.ref a, .int 2100] S (qRU r) := by
  unfold f_X2_init_2100 at h0
  refine ev_method (by decide +kernel) rfl rfl (Nat.le_of_ble_eq_true rfl) ?_
  show EvW X m_X2_init 1 1 2100 0 [some (.ref a), some (.int 2100)] [] S _
  refine ev_aload_n (pc := 0) (i := 0) rfl rfl rfl dX2_init_0 ?_
  refine ev_objInit (pc := 1) gw_38 gw_31 gw_32 (by decide) (by simp) (by decide) dX2_init_1 ?_
  refine ev_aload_n (pc := 4) (i := 0) rfl rfl rfl dX2_init_4 ?_
  refine ev_iload_n (pc := 5) (i := 1) rfl rfl dX2_init_5 ?_
  refine ev_if_le (pc := 6) (tgt := 13) (by decide) dX2_init_6 (fun c1 => absurd c1 (by decide)) (fun c1 => ?_)
  refine ev_iload_n (pc := 9) (i := 1) rfl rfl dX2_init_9 ?_
  refine ev_goto (pc := 10) (tgt := 14) (by decide) dX2_init_10 ?_
  obtain ⟨g2, h3⟩ := qk_el h0; clear h0
  obtain ⟨b4, e5, h6⟩ := qv_el h3; clear h3
  obtain ⟨S7, e8, h9⟩ := qv_el h6; clear h6
  refine zv_newa (pc := 14) (by omega) (by omega) (k := 0) (j := 0) (kd := 10) (N := 2100) (atype := .byte) g2 (by simp) e5 e8 gw_49 (by decide) (by decide) (by decide) dX2_init_14 ?_
  obtain ⟨g10, h11⟩ := qk_el h9; clear h9
  obtain ⟨S12, e13, h14⟩ := qv_el h11; clear h11
  refine yv_putPF (pc := 16) fn_100 rfl rfl (isb_el g10) e13 gw_39 dX2_init_16 ?_
  refine ev_aload_n (pc := 19) (i := 0) rfl rfl rfl dX2_init_19 ?_
  refine ev_iconst (pc := 20) (v := 0) (by decide) dX2_init_20 ?_
  obtain ⟨S15, e16, h17⟩ := qv_el h14; clear h14
  refine yv_putI (pc := 21) fn_101 ⟨rfl, rfl⟩ (is_sP (isb_el g10) e13) e16 gw_40 dX2_init_21 ?_
  exact ev_return (pc := 24) rfl (qRU_eq h17) dX2_init_24
theorem e_X2_init_3000 {X : gk_X} {F : Nat} {S : gk_S} {a : Nat} {r : (Unit × gk_S)} (h0 : f_X2_init_3000 F S a = some r) : EvM X m_X2_init 1 1 3000 [.ref a, .int 3000] S (qRU r) := by
  unfold f_X2_init_3000 at h0
  refine ev_method (by decide +kernel) rfl rfl (Nat.le_of_ble_eq_true rfl) ?_
  show EvW X m_X2_init 1 1 3000 0 [some (.ref a), some (.int 3000)] [] S _
  refine ev_aload_n (pc := 0) (i := 0) rfl rfl rfl dX2_init_0 ?_
  refine ev_objInit (pc := 1) gw_38 gw_31 gw_32 (by decide) (by simp) (by decide) dX2_init_1 ?_
  refine ev_aload_n (pc := 4) (i := 0) rfl rfl rfl dX2_init_4 ?_
  refine ev_iload_n (pc := 5) (i := 1) rfl rfl dX2_init_5 ?_
  refine ev_if_le (pc := 6) (tgt := 13) (by decide) dX2_init_6 (fun c1 => absurd c1 (by decide)) (fun c1 => ?_)
  refine ev_iload_n (pc := 9) (i := 1) rfl rfl dX2_init_9 ?_
  refine ev_goto (pc := 10) (tgt := 14) (by decide) dX2_init_10 ?_
  obtain ⟨g2, h3⟩ := qk_el h0; clear h0
  obtain ⟨b4, e5, h6⟩ := qv_el h3; clear h3
  obtain ⟨S7, e8, h9⟩ := qv_el h6; clear h6
  refine zv_newa (pc := 14) (by omega) (by omega) (k := 0) (j := 0) (kd := 10) (N := 3000) (atype := .byte) g2 (by simp) e5 e8 gw_49 (by decide) (by decide) (by decide) dX2_init_14 ?_
  obtain ⟨g10, h11⟩ := qk_el h9; clear h9
  obtain ⟨S12, e13, h14⟩ := qv_el h11; clear h11
  refine yv_putPF (pc := 16) fn_100 rfl rfl (isb_el g10) e13 gw_39 dX2_init_16 ?_
  refine ev_aload_n (pc := 19) (i := 0) rfl rfl rfl dX2_init_19 ?_
  refine ev_iconst (pc := 20) (v := 0) (by decide) dX2_init_20 ?_
  obtain ⟨S15, e16, h17⟩ := qv_el h14; clear h14
  refine yv_putI (pc := 21) fn_101 ⟨rfl, rfl⟩ (is_sP (isb_el g10) e13) e16 gw_40 dX2_init_21 ?_
  exact ev_return (pc := 24) rfl (qRU_eq h17) dX2_init_24
theorem dX5_init_0 : decode cX5_init 0 = .ok (.aload_n 0, 1) := by decide +kernel
theorem dX5_init_1 : decode cX5_init 1 = .ok (.invokespecial 3, 3) := by decide +kernel
theorem dX5_init_4 : decode cX5_init 4 = .ok (.aload_n 0, 1) := by decide +kernel
theorem dX5_init_5 : decode cX5_init 5 = .ok (.bipush 6, 2) := by decide +kernel
theorem dX5_init_7 : decode cX5_init 7 = .ok (.newarray .long, 2) := by decide +kernel
theorem dX5_init_9 : decode cX5_init 9 = .ok (.putfield 9, 3) := by decide +kernel
theorem dX5_init_12 : decode cX5_init 12 = .ok (.aload_n 0, 1) := by decide +kernel
theorem dX5_init_13 : decode cX5_init 13 = .ok (.bipush 6, 2) := by decide +kernel
theorem dX5_init_15 : decode cX5_init 15 = .ok (.newarray .long, 2) := by decide +kernel
theorem dX5_init_17 : decode cX5_init 17 = .ok (.putfield 15, 3) := by decide +kernel
theorem dX5_init_20 : decode cX5_init 20 = .ok (.aload_n 0, 1) := by decide +kernel
theorem dX5_init_21 : decode cX5_init 21 = .ok (.bipush 15, 2) := by decide +kernel
theorem dX5_init_23 : decode cX5_init 23 = .ok (.putfield 18, 3) := by decide +kernel
theorem dX5_init_26 : decode cX5_init 26 = .ok (.aload_n 0, 1) := by decide +kernel
theorem dX5_init_27 : decode cX5_init 27 = .ok (.iconst 0, 1) := by decide +kernel
theorem dX5_init_28 : decode cX5_init 28 = .ok (.putfield 22, 3) := by decide +kernel
theorem dX5_init_31 : decode cX5_init 31 = .ok (.aload_n 0, 1) := by decide +kernel
theorem dX5_init_32 : decode cX5_init 32 = .ok (.iconst 0, 1) := by decide +kernel
theorem dX5_init_33 : decode cX5_init 33 = .ok (.putfield 25, 3) := by decide +kernel
theorem dX5_init_36 : decode cX5_init 36 = .ok (.return_, 1) := by decide +kernel
theorem e_X5_init {X : gk_X} {F : Nat} {S : gk_S} {a : Nat} {r : (Unit × gk_S)} (h0 : f_X5_init F S a = some r) : EvM X m_X5_init 1 2 12 [.ref a] S (qRU r) := by
  unfold f_X5_init at h0
  refine ev_method (by decide +kernel) rfl rfl (Nat.le_of_ble_eq_true rfl) ?_
  show EvW X m_X5_init 1 2 12 0 [some (.ref a)] [] S _
  refine ev_aload_n (pc := 0) (i := 0) rfl rfl rfl dX5_init_0 ?_
  refine ev_objInit (pc := 1) gw_63 gw_31 gw_32 (by decide) (by simp) (by decide) dX5_init_1 ?_
  refine ev_aload_n (pc := 4) (i := 0) rfl rfl rfl dX5_init_4 ?_
  refine ev_bipush (pc := 5) (v := 6) (by decide) dX5_init_5 ?_
  obtain ⟨g1, h2⟩ := qk_el h0; clear h0
  obtain ⟨b3, e4, h5⟩ := qv_el h2; clear h2
  obtain ⟨S6, e7, h8⟩ := qv_el h5; clear h5
  refine zv_newa (pc := 7) (by omega) (by omega) (k := 1) (j := 6) (kd := 12) (N := 6) (atype := .long) g1 (by simp) e4 e7 gw_89 (by decide) (by decide) (by decide) dX5_init_7 ?_
  obtain ⟨g9, h10⟩ := qk_el h8; clear h8
  obtain ⟨S11, e12, h13⟩ := qv_el h10; clear h10
  refine yv_putPF (pc := 9) fn_300 rfl rfl (isb_el g9) e12 gw_64 dX5_init_9 ?_
  refine ev_aload_n (pc := 12) (i := 0) rfl rfl rfl dX5_init_12 ?_
  refine ev_bipush (pc := 13) (v := 6) (by decide) dX5_init_13 ?_
  obtain ⟨g14, h15⟩ := qk_el h13; clear h13
  obtain ⟨b16, e17, h18⟩ := qv_el h15; clear h15
  obtain ⟨S19, e20, h21⟩ := qv_el h18; clear h18
  refine zv_newa (pc := 15) (by omega) (by omega) (k := 0) (j := 0) (kd := 12) (N := 6) (atype := .long) g14 (by simp) e17 e20 gw_89 (by decide) (by decide) (by decide) dX5_init_15 ?_
  obtain ⟨S22, e23, h24⟩ := qv_el h21; clear h21
  refine yv_putPF (pc := 17) fn_301 rfl rfl (is_nK (is_sP (isb_el g9) e12) e20) e23 gw_67 dX5_init_17 ?_
  refine ev_aload_n (pc := 20) (i := 0) rfl rfl rfl dX5_init_20 ?_
  refine ev_bipush (pc := 21) (v := 15) (by decide) dX5_init_21 ?_
  obtain ⟨S25, e26, h27⟩ := qv_el h24; clear h24
  refine yv_putI (pc := 23) fn_302 ⟨rfl, rfl⟩ (is_sP (is_nK (is_sP (isb_el g9) e12) e20) e23) e26 gw_70 dX5_init_23 ?_
  refine ev_aload_n (pc := 26) (i := 0) rfl rfl rfl dX5_init_26 ?_
  refine ev_iconst (pc := 27) (v := 0) (by decide) dX5_init_27 ?_
  obtain ⟨S28, e29, h30⟩ := qv_el h27; clear h27
  refine yv_putI (pc := 28) fn_303 ⟨rfl, rfl⟩ (is_sI (is_sP (is_nK (is_sP (isb_el g9) e12) e20) e23) e26) e29 gw_72 dX5_init_28 ?_
  refine ev_aload_n (pc := 31) (i := 0) rfl rfl rfl dX5_init_31 ?_
  refine ev_iconst (pc := 32) (v := 0) (by decide) dX5_init_32 ?_
  obtain ⟨S31, e32, h33⟩ := qv_el h30; clear h30
  refine yv_putI (pc := 33) fn_304 ⟨rfl, rfl⟩ (is_sI (is_sI (is_sP (is_nK (is_sP (isb_el g9) e12) e20) e23) e26) e29) e32 gw_76 dX5_init_33 ?_
  exact ev_return (pc := 36) rfl (qRU_eq h33) dX5_init_36
theorem dX6_init_0 : decode cX6_init 0 = .ok (.aload_n 0, 1) := by decide +kernel
theorem dX6_init_1 : decode cX6_init 1 = .ok (.invokespecial 3, 3) := by decide +kernel
theorem dX6_init_4 : decode cX6_init 4 = .ok (.aload_n 0, 1) := by decide +kernel
theorem dX6_init_5 : decode cX6_init 5 = .ok (.bipush 16, 2) := by decide +kernel
theorem dX6_init_7 : decode cX6_init 7 = .ok (.anewarray 9, 3) := by decide +kernel
theorem dX6_init_10 : decode cX6_init 10 = .ok (.putfield 11, 3) := by decide +kernel
theorem dX6_init_13 : decode cX6_init 13 = .ok (.iconst 0, 1) := by decide +kernel
theorem dX6_init_14 : decode cX6_init 14 = .ok (.istore_n 1, 1) := by decide +kernel
theorem dX6_init_15 : decode cX6_init 15 = .ok (.iload_n 1, 1) := by decide +kernel
theorem dX6_init_16 : decode cX6_init 16 = .ok (.bipush 16, 2) := by decide +kernel
theorem dX6_init_18 : decode cX6_init 18 = .ok (.if_icmp .ge 22, 3) := by decide +kernel
theorem dX6_init_21 : decode cX6_init 21 = .ok (.aload_n 0, 1) := by decide +kernel
theorem dX6_init_22 : decode cX6_init 22 = .ok (.getfield 11, 3) := by decide +kernel
theorem dX6_init_25 : decode cX6_init 25 = .ok (.iload_n 1, 1) := by decide +kernel
theorem dX6_init_26 : decode cX6_init 26 = .ok (.new 9, 3) := by decide +kernel
theorem dX6_init_29 : decode cX6_init 29 = .ok (.dup, 1) := by decide +kernel
theorem dX6_init_30 : decode cX6_init 30 = .ok (.invokespecial 17, 3) := by decide +kernel
theorem dX6_init_33 : decode cX6_init 33 = .ok (.aastore, 1) := by decide +kernel
theorem dX6_init_34 : decode cX6_init 34 = .ok (.iinc 1 1, 3) := by decide +kernel
theorem dX6_init_37 : decode cX6_init 37 = .ok (.goto (-22), 3) := by decide +kernel
theorem dX6_init_40 : decode cX6_init 40 = .ok (.aload_n 0, 1) := by decide +kernel
theorem dX6_init_41 : decode cX6_init 41 = .ok (.iconst 0, 1) := by decide +kernel
theorem dX6_init_42 : decode cX6_init 42 = .ok (.putfield 18, 3) := by decide +kernel
theorem dX6_init_45 : decode cX6_init 45 = .ok (.aload_n 0, 1) := by decide +kernel
theorem dX6_init_46 : decode cX6_init 46 = .ok (.iconst 0, 1) := by decide +kernel
theorem dX6_init_47 : decode cX6_init 47 = .ok (.putfield 22, 3) := by decide +kernel
theorem dX6_init_50 : decode cX6_init 50 = .ok (.aload_n 0, 1) := by decide +kernel
theorem dX6_init_51 : decode cX6_init 51 = .ok (.iconst 0, 1) := by decide +kernel
theorem dX6_init_52 : decode cX6_init 52 = .ok (.putfield 25, 3) := by decide +kernel
theorem dX6_init_55 : decode cX6_init 55 = .ok (.return_, 1) := by decide +kernel
theorem e_X6_init_15 {X : gk_X} {F : Nat} : ∀ (n : Nat) (l0 : Nat) (l1 : Int32) (S : gk_S) (r : (Unit × gk_S)), f_X6_init_15 F n l0 l1 S = some r → EvW X m_X6_init 2 (0 + 3 * n) (0 + 17 * n) 15 [some (.ref l0), some (.int l1)] [] S (qRU r) := by
  intro n
  induction n with
  | zero => intro l0 l1 S r h0; rw [f_X6_init_15] at h0; cases h0
  | succ n ih =>
    intro l0 l1 S r h0; rw [f_X6_init_15] at h0
    refine ev_bud (k' := (3 + 3 * n)) (j' := (17 + 17 * n)) (by omega) (by omega) ?_
    refine ev_iload_n (pc := 15) (i := 1) rfl rfl dX6_init_15 ?_
    refine ev_bipush (pc := 16) (v := 16) (by decide) dX6_init_16 ?_
    refine ev_ic_ge (pc := 18) (tgt := 40) (by decide) dX6_init_18 (fun c14 => ?_) (fun c14 => ?_)
    · replace h0 := qi_t h0 c14
      refine ev_aload_n (pc := 40) (i := 0) rfl rfl rfl dX6_init_40 ?_
      refine ev_iconst (pc := 41) (v := 0) (by decide) dX6_init_41 ?_
      obtain ⟨g16, h17⟩ := qk_el h0; clear h0
      obtain ⟨S18, e19, h20⟩ := qv_el h17; clear h17
      refine yv_putI (pc := 42) fn_401 ⟨rfl, rfl⟩ (isb_el g16) e19 gw_91 dX6_init_42 ?_
      refine ev_aload_n (pc := 45) (i := 0) rfl rfl rfl dX6_init_45 ?_
      refine ev_iconst (pc := 46) (v := 0) (by decide) dX6_init_46 ?_
      obtain ⟨S21, e22, h23⟩ := qv_el h20; clear h20
      refine yv_putI (pc := 47) fn_402 ⟨rfl, rfl⟩ (is_sI (isb_el g16) e19) e22 gw_96 dX6_init_47 ?_
      refine ev_aload_n (pc := 50) (i := 0) rfl rfl rfl dX6_init_50 ?_
      refine ev_iconst (pc := 51) (v := 0) (by decide) dX6_init_51 ?_
      obtain ⟨S24, e25, h26⟩ := qv_el h23; clear h23
      refine yv_putI (pc := 52) fn_403 ⟨rfl, rfl⟩ (is_sI (is_sI (isb_el g16) e19) e22) e25 gw_101 dX6_init_52 ?_
      exact ev_return (pc := 55) rfl (qRU_eq h26) dX6_init_55
    · replace h0 := qi_f h0 c14
      refine ev_aload_n (pc := 21) (i := 0) rfl rfl rfl dX6_init_21 ?_
      obtain ⟨g27, h28⟩ := qk_el h0; clear h0
      obtain ⟨b29, e30, h31⟩ := qP_el h28; clear h28
      refine xv_getP (pc := 22) fn_400 (isb_el g27) e30 gw_90 dX6_init_22 ?_
      refine ev_iload_n (pc := 25) (i := 1) rfl rfl dX6_init_25 ?_
      obtain ⟨g32, h33⟩ := qk_el h31; clear h31
      obtain ⟨b34, e35, h36⟩ := qv_el h33; clear h33
      obtain ⟨S37, e38, h39⟩ := qv_el h36; clear h36
      refine zv_new (pc := 26) (nf := 5) (by omega) (by omega) rfl (k := (2 + 3 * n)) (j := (12 + 17 * n)) (ci := 3) g32 (by decide) e35 e38 gw_57 gw_59 gw_4 dX6_init_26 ?_
      refine ev_dup (pc := 29) (.inr rfl) dX6_init_29 ?_
      obtain ⟨x40, S41, e42, h43⟩ := qc_el h39; clear h39
      refine xv_callI (pc := 30) (k := (0 + 3 * n)) (j := (0 + 17 * n)) (st := [.ref b34, .int l1, .ref b29]) (as := []) (v := none) (S' := S41) ok_X5_init (e_X5_init e42) (by omega) (by omega) (by decide) rfl (Nat.le_of_ble_eq_true rfl) rfl gw_60 dX6_init_30 ?_
      obtain ⟨g44, h45⟩ := qk_el h43; clear h43
      obtain ⟨g46, h47⟩ := qk_el h45; clear h45
      obtain ⟨g48, h49⟩ := qk_el h47; clear h47
      obtain ⟨S50, e51, h52⟩ := qv_el h49; clear h49
      refine yv_aast (pc := 33) (isb_el g44) (by decide) (isb_el g46) (inb_el g48) e51 dX6_init_33 ?_
      refine ev_iinc (pc := 34) (L' := [some (.ref l0), some (.int (l1 + 1))]) (i := 1) (v := (l1 + 1)) rfl rfl (by decide) rfl rfl dX6_init_34 ?_
      refine ev_goto (pc := 37) (tgt := 15) (by decide) dX6_init_37 ?_
      exact ev_mono (Nat.le_refl _) (by omega) (by omega) (ev_weak (qL_s (qL_s qL_nil)) (ih _ _ _ _ h52))
theorem e_X6_init {X : gk_X} {F : Nat} {S : gk_S} {a : Nat} {r : (Unit × gk_S)} (h0 : f_X6_init F S a = some r) : EvM X m_X6_init 2 52 305 [.ref a] S (qRU r) := by
  unfold f_X6_init at h0
  refine ev_method (by decide +kernel) rfl rfl (Nat.le_of_ble_eq_true rfl) ?_
  show EvW X m_X6_init 2 52 305 0 [some (.ref a), none] [] S _
  refine ev_aload_n (pc := 0) (i := 0) rfl rfl rfl dX6_init_0 ?_
  refine ev_objInit (pc := 1) gw_56 gw_31 gw_32 (by decide) (by simp) (by decide) dX6_init_1 ?_
  refine ev_aload_n (pc := 4) (i := 0) rfl rfl rfl dX6_init_4 ?_
  refine ev_bipush (pc := 5) (v := 16) (by decide) dX6_init_5 ?_
  obtain ⟨g1, h2⟩ := qk_el h0; clear h0
  obtain ⟨b3, e4, h5⟩ := qv_el h2; clear h2
  obtain ⟨S6, e7, h8⟩ := qv_el h5; clear h5
  refine zv_newq (pc := 7) (by omega) (by omega) (k := 51) (j := 289) (kd := 15) (N := 16) g1 (by decide) e4 e7 gw_57 (by decide) (by decide) (by decide) dX6_init_7 ?_
  obtain ⟨g9, h10⟩ := qk_el h8; clear h8
  obtain ⟨S11, e12, h13⟩ := qv_el h10; clear h10
  refine yv_putPF (pc := 10) fn_400 rfl rfl (isb_el g9) e12 gw_90 dX6_init_10 ?_
  refine ev_iconst (pc := 13) (v := 0) (by decide) dX6_init_13 ?_
  refine ev_istore_n (pc := 14) (L' := [some (.ref a), some (.int 0)]) (i := 1) rfl (by decide) rfl rfl dX6_init_14 ?_
  exact ev_weak (qL_s (qL_s qL_nil)) (e_X6_init_15 17 _ _ _ _ h13)
theorem dX9_init_0 : decode cX9_init 0 = .ok (.aload_n 0, 1) := by decide +kernel
theorem dX9_init_1 : decode cX9_init 1 = .ok (.invokespecial 3, 3) := by decide +kernel
theorem dX9_init_4 : decode cX9_init 4 = .ok (.aload_n 0, 1) := by decide +kernel
theorem dX9_init_5 : decode cX9_init 5 = .ok (.aload_n 1, 1) := by decide +kernel
theorem dX9_init_6 : decode cX9_init 6 = .ok (.putfield 9, 3) := by decide +kernel
theorem dX9_init_9 : decode cX9_init 9 = .ok (.aload_n 0, 1) := by decide +kernel
theorem dX9_init_10 : decode cX9_init 10 = .ok (.iconst 0, 1) := by decide +kernel
theorem dX9_init_11 : decode cX9_init 11 = .ok (.putfield 15, 3) := by decide +kernel
theorem dX9_init_14 : decode cX9_init 14 = .ok (.aload_n 0, 1) := by decide +kernel
theorem dX9_init_15 : decode cX9_init 15 = .ok (.iconst 0, 1) := by decide +kernel
theorem dX9_init_16 : decode cX9_init 16 = .ok (.putfield 19, 3) := by decide +kernel
theorem dX9_init_19 : decode cX9_init 19 = .ok (.aload_n 0, 1) := by decide +kernel
theorem dX9_init_20 : decode cX9_init 20 = .ok (.sipush 256, 3) := by decide +kernel
theorem dX9_init_23 : decode cX9_init 23 = .ok (.putfield 22, 3) := by decide +kernel
theorem dX9_init_26 : decode cX9_init 26 = .ok (.aload_n 0, 1) := by decide +kernel
theorem dX9_init_27 : decode cX9_init 27 = .ok (.iconst 0, 1) := by decide +kernel
theorem dX9_init_28 : decode cX9_init 28 = .ok (.putfield 25, 3) := by decide +kernel
theorem dX9_init_31 : decode cX9_init 31 = .ok (.aload_n 0, 1) := by decide +kernel
theorem dX9_init_32 : decode cX9_init 32 = .ok (.iconst 0, 1) := by decide +kernel
theorem dX9_init_33 : decode cX9_init 33 = .ok (.putfield 28, 3) := by decide +kernel
theorem dX9_init_36 : decode cX9_init 36 = .ok (.aload_n 0, 1) := by decide +kernel
theorem dX9_init_37 : decode cX9_init 37 = .ok (.lconst 0, 1) := by decide +kernel
theorem dX9_init_38 : decode cX9_init 38 = .ok (.putfield 31, 3) := by decide +kernel
theorem dX9_init_41 : decode cX9_init 41 = .ok (.aload_n 0, 1) := by decide +kernel
theorem dX9_init_42 : decode cX9_init 42 = .ok (.iconst 0, 1) := by decide +kernel
theorem dX9_init_43 : decode cX9_init 43 = .ok (.putfield 35, 3) := by decide +kernel
theorem dX9_init_46 : decode cX9_init 46 = .ok (.aload_n 0, 1) := by decide +kernel
theorem dX9_init_47 : decode cX9_init 47 = .ok (.iconst 0, 1) := by decide +kernel
theorem dX9_init_48 : decode cX9_init 48 = .ok (.putfield 38, 3) := by decide +kernel
theorem dX9_init_51 : decode cX9_init 51 = .ok (.aload_n 0, 1) := by decide +kernel
theorem dX9_init_52 : decode cX9_init 52 = .ok (.iconst 0, 1) := by decide +kernel
theorem dX9_init_53 : decode cX9_init 53 = .ok (.putfield 41, 3) := by decide +kernel
theorem dX9_init_56 : decode cX9_init 56 = .ok (.aload_n 0, 1) := by decide +kernel
theorem dX9_init_57 : decode cX9_init 57 = .ok (.lconst 0, 1) := by decide +kernel
theorem dX9_init_58 : decode cX9_init 58 = .ok (.putfield 44, 3) := by decide +kernel
theorem dX9_init_61 : decode cX9_init 61 = .ok (.return_, 1) := by decide +kernel
theorem e_X9_init {X : gk_X} {F : Nat} {S : gk_S} {a : Nat} {p0 : Nat} {r : (Unit × gk_S)} (h0 : f_X9_init F S a p0 = some r) : EvM X m_X9_init 1 0 0 [.ref a, .ref p0] S (qRU r) := by
  unfold f_X9_init at h0
  refine ev_method (by decide +kernel) rfl rfl (Nat.le_of_ble_eq_true rfl) ?_
  show EvW X m_X9_init 1 0 0 0 [some (.ref a), some (.ref p0)] [] S _
  refine ev_aload_n (pc := 0) (i := 0) rfl rfl rfl dX9_init_0 ?_
  refine ev_objInit (pc := 1) gw_117 gw_31 gw_32 (by decide) (by simp) (by decide) dX9_init_1 ?_
  refine ev_aload_n (pc := 4) (i := 0) rfl rfl rfl dX9_init_4 ?_
  refine ev_aload_n (pc := 5) (i := 1) rfl rfl rfl dX9_init_5 ?_
  obtain ⟨g1, h2⟩ := qk_el h0; clear h0
  obtain ⟨S3, e4, h5⟩ := qv_el h2; clear h2
  refine yv_putPF (pc := 6) fn_700 rfl rfl (isb_el g1) e4 gw_118 dX9_init_6 ?_
  refine ev_aload_n (pc := 9) (i := 0) rfl rfl rfl dX9_init_9 ?_
  refine ev_iconst (pc := 10) (v := 0) (by decide) dX9_init_10 ?_
  obtain ⟨S6, e7, h8⟩ := qv_el h5; clear h5
  refine yv_putI (pc := 11) fn_701 ⟨rfl, rfl⟩ (is_sP (isb_el g1) e4) e7 gw_119 dX9_init_11 ?_
  refine ev_aload_n (pc := 14) (i := 0) rfl rfl rfl dX9_init_14 ?_
  refine ev_iconst (pc := 15) (v := 0) (by decide) dX9_init_15 ?_
  obtain ⟨S9, e10, h11⟩ := qv_el h8; clear h8
  refine yv_putI (pc := 16) fn_702 ⟨rfl, rfl⟩ (is_sI (is_sP (isb_el g1) e4) e7) e10 gw_121 dX9_init_16 ?_
  refine ev_aload_n (pc := 19) (i := 0) rfl rfl rfl dX9_init_19 ?_
  refine ev_sipush (pc := 20) (v := 256) (by decide) dX9_init_20 ?_
  obtain ⟨S12, e13, h14⟩ := qv_el h11; clear h11
  refine yv_putI (pc := 23) fn_703 ⟨rfl, rfl⟩ (is_sI (is_sI (is_sP (isb_el g1) e4) e7) e10) e13 gw_123 dX9_init_23 ?_
  refine ev_aload_n (pc := 26) (i := 0) rfl rfl rfl dX9_init_26 ?_
  refine ev_iconst (pc := 27) (v := 0) (by decide) dX9_init_27 ?_
  obtain ⟨S15, e16, h17⟩ := qv_el h14; clear h14
  refine yv_putI (pc := 28) fn_704 ⟨rfl, rfl⟩ (is_sI (is_sI (is_sI (is_sP (isb_el g1) e4) e7) e10) e13) e16 gw_124 dX9_init_28 ?_
  refine ev_aload_n (pc := 31) (i := 0) rfl rfl rfl dX9_init_31 ?_
  refine ev_iconst (pc := 32) (v := 0) (by decide) dX9_init_32 ?_
  obtain ⟨S18, e19, h20⟩ := qv_el h17; clear h17
  refine yv_putI (pc := 33) fn_705 ⟨rfl, rfl⟩ (is_sI (is_sI (is_sI (is_sI (is_sP (isb_el g1) e4) e7) e10) e13) e16) e19 gw_125 dX9_init_33 ?_
  refine ev_aload_n (pc := 36) (i := 0) rfl rfl rfl dX9_init_36 ?_
  refine ev_lconst (pc := 37) (v := 0) (by decide) dX9_init_37 ?_
  obtain ⟨S21, e22, h23⟩ := qv_el h20; clear h20
  refine yv_putJ (pc := 38) fn_706 (is_sI (is_sI (is_sI (is_sI (is_sI (is_sP (isb_el g1) e4) e7) e10) e13) e16) e19) e22 gw_126 dX9_init_38 ?_
  refine ev_aload_n (pc := 41) (i := 0) rfl rfl rfl dX9_init_41 ?_
  refine ev_iconst (pc := 42) (v := 0) (by decide) dX9_init_42 ?_
  obtain ⟨S24, e25, h26⟩ := qv_el h23; clear h23
  refine yv_putI (pc := 43) fn_707 ⟨rfl, rfl⟩ (is_sJ (is_sI (is_sI (is_sI (is_sI (is_sI (is_sP (isb_el g1) e4) e7) e10) e13) e16) e19) e22) e25 gw_127 dX9_init_43 ?_
  refine ev_aload_n (pc := 46) (i := 0) rfl rfl rfl dX9_init_46 ?_
  refine ev_iconst (pc := 47) (v := 0) (by decide) dX9_init_47 ?_
  obtain ⟨S27, e28, h29⟩ := qv_el h26; clear h26
  refine yv_putI (pc := 48) fn_708 ⟨rfl, rfl⟩ (is_sI (is_sJ (is_sI (is_sI (is_sI (is_sI (is_sI (is_sP (isb_el g1) e4) e7) e10) e13) e16) e19) e22) e25) e28 gw_128 dX9_init_48 ?_
  refine ev_aload_n (pc := 51) (i := 0) rfl rfl rfl dX9_init_51 ?_
  refine ev_iconst (pc := 52) (v := 0) (by decide) dX9_init_52 ?_
  obtain ⟨S30, e31, h32⟩ := qv_el h29; clear h29
  refine yv_putI (pc := 53) fn_709 ⟨rfl, rfl⟩ (is_sI (is_sI (is_sJ (is_sI (is_sI (is_sI (is_sI (is_sI (is_sP (isb_el g1) e4) e7) e10) e13) e16) e19) e22) e25) e28) e31 gw_129 dX9_init_53 ?_
  refine ev_aload_n (pc := 56) (i := 0) rfl rfl rfl dX9_init_56 ?_
  refine ev_lconst (pc := 57) (v := 0) (by decide) dX9_init_57 ?_
  obtain ⟨S33, e34, h35⟩ := qv_el h32; clear h32
  refine yv_putJ (pc := 58) fn_710 (is_sI (is_sI (is_sI (is_sJ (is_sI (is_sI (is_sI (is_sI (is_sI (is_sP (isb_el g1) e4) e7) e10) e13) e16) e19) e22) e25) e28) e31) e34 gw_130 dX9_init_58 ?_
  exact ev_return (pc := 61) rfl (qRU_eq h35) dX9_init_61
theorem dX7_init_0 : decode cX7_init 0 = .ok (.aload_n 0, 1) := by decide +kernel
theorem dX7_init_1 : decode cX7_init 1 = .ok (.invokespecial 5, 3) := by decide +kernel
theorem dX7_init_4 : decode cX7_init 4 = .ok (.aload_n 0, 1) := by decide +kernel
theorem dX7_init_5 : decode cX7_init 5 = .ok (.bipush 7, 2) := by decide +kernel
theorem dX7_init_7 : decode cX7_init 7 = .ok (.newarray .long, 2) := by decide +kernel
theorem dX7_init_9 : decode cX7_init 9 = .ok (.putfield 11, 3) := by decide +kernel
theorem dX7_init_12 : decode cX7_init 12 = .ok (.aload_n 0, 1) := by decide +kernel
theorem dX7_init_13 : decode cX7_init 13 = .ok (.bipush 7, 2) := by decide +kernel
theorem dX7_init_15 : decode cX7_init 15 = .ok (.bipush 65, 2) := by decide +kernel
theorem dX7_init_17 : decode cX7_init 17 = .ok (.multianewarray 15 2, 4) := by decide +kernel
theorem dX7_init_21 : decode cX7_init 21 = .ok (.putfield 17, 3) := by decide +kernel
theorem dX7_init_24 : decode cX7_init 24 = .ok (.aload_n 0, 1) := by decide +kernel
theorem dX7_init_25 : decode cX7_init 25 = .ok (.bipush 7, 2) := by decide +kernel
theorem dX7_init_27 : decode cX7_init 27 = .ok (.bipush 65, 2) := by decide +kernel
theorem dX7_init_29 : decode cX7_init 29 = .ok (.multianewarray 20 2, 4) := by decide +kernel
theorem dX7_init_33 : decode cX7_init 33 = .ok (.putfield 22, 3) := by decide +kernel
theorem dX7_init_36 : decode cX7_init 36 = .ok (.aload_n 0, 1) := by decide +kernel
theorem dX7_init_37 : decode cX7_init 37 = .ok (.bipush 7, 2) := by decide +kernel
theorem dX7_init_39 : decode cX7_init 39 = .ok (.newarray .int, 2) := by decide +kernel
theorem dX7_init_41 : decode cX7_init 41 = .ok (.putfield 25, 3) := by decide +kernel
theorem dX7_init_44 : decode cX7_init 44 = .ok (.aload_n 0, 1) := by decide +kernel
theorem dX7_init_45 : decode cX7_init 45 = .ok (.bipush 8, 2) := by decide +kernel
theorem dX7_init_47 : decode cX7_init 47 = .ok (.newarray .int, 2) := by decide +kernel
theorem dX7_init_49 : decode cX7_init 49 = .ok (.putfield 29, 3) := by decide +kernel
theorem dX7_init_52 : decode cX7_init 52 = .ok (.aload_n 0, 1) := by decide +kernel
theorem dX7_init_53 : decode cX7_init 53 = .ok (.iconst 3, 1) := by decide +kernel
theorem dX7_init_54 : decode cX7_init 54 = .ok (.newarray .int, 2) := by decide +kernel
theorem dX7_init_56 : decode cX7_init 56 = .ok (.putfield 32, 3) := by decide +kernel
theorem dX7_init_59 : decode cX7_init 59 = .ok (.aload_n 0, 1) := by decide +kernel
theorem dX7_init_60 : decode cX7_init 60 = .ok (.iconst 0, 1) := by decide +kernel
theorem dX7_init_61 : decode cX7_init 61 = .ok (.putfield 35, 3) := by decide +kernel
theorem dX7_init_64 : decode cX7_init 64 = .ok (.aload_n 0, 1) := by decide +kernel
theorem dX7_init_65 : decode cX7_init 65 = .ok (.sipush 1024, 3) := by decide +kernel
theorem dX7_init_68 : decode cX7_init 68 = .ok (.newarray .long, 2) := by decide +kernel
theorem dX7_init_70 : decode cX7_init 70 = .ok (.putfield 39, 3) := by decide +kernel
theorem dX7_init_73 : decode cX7_init 73 = .ok (.aload_n 0, 1) := by decide +kernel
theorem dX7_init_74 : decode cX7_init 74 = .ok (.lconst 0, 1) := by decide +kernel
theorem dX7_init_75 : decode cX7_init 75 = .ok (.putfield 42, 3) := by decide +kernel
theorem dX7_init_78 : decode cX7_init 78 = .ok (.return_, 1) := by decide +kernel
theorem e_X7_init {X : gk_X} {F : Nat} {S : gk_S} {a : Nat} {r : (Unit × gk_S)} (h0 : f_X7_init F S a = some r) : EvM X m_X7_init 1 21 1973 [.ref a] S (qRU r) := by
  unfold f_X7_init at h0
  refine ev_method (by decide +kernel) rfl rfl (Nat.le_of_ble_eq_true rfl) ?_
  show EvW X m_X7_init 1 21 1973 0 [some (.ref a)] [] S _
  refine ev_aload_n (pc := 0) (i := 0) rfl rfl rfl dX7_init_0 ?_
  refine ev_objInit (pc := 1) gw_159 gw_31 gw_32 (by decide) (by simp) (by decide) dX7_init_1 ?_
  refine ev_aload_n (pc := 4) (i := 0) rfl rfl rfl dX7_init_4 ?_
  refine ev_bipush (pc := 5) (v := 7) (by decide) dX7_init_5 ?_
  obtain ⟨g1, h2⟩ := qk_el h0; clear h0
  obtain ⟨b3, e4, h5⟩ := qv_el h2; clear h2
  obtain ⟨S6, e7, h8⟩ := qv_el h5; clear h5
  refine zv_newa (pc := 7) (by omega) (by omega) (k := 20) (j := 1966) (kd := 12) (N := 7) (atype := .long) g1 (by simp) e4 e7 gw_89 (by decide) (by decide) (by decide) dX7_init_7 ?_
  obtain ⟨g9, h10⟩ := qk_el h8; clear h8
  obtain ⟨S11, e12, h13⟩ := qv_el h10; clear h10
  refine yv_putPF (pc := 9) fn_500 rfl rfl (isb_el g9) e12 gw_164 dX7_init_9 ?_
  refine ev_aload_n (pc := 12) (i := 0) rfl rfl rfl dX7_init_12 ?_
  refine ev_bipush (pc := 13) (v := 7) (by decide) dX7_init_13 ?_
  refine ev_bipush (pc := 15) (v := 65) (by decide) dX7_init_15 ?_
  obtain ⟨g14, h15⟩ := qk_el h13; clear h13
  obtain ⟨b16, e17, h18⟩ := qv_el h15; clear h15
  obtain ⟨S19, e20, h21⟩ := qv_el h18; clear h18
  refine zv_mna (pc := 17) (by omega) (by omega) (k := 12) (j := 1504) (ok := 18) (ik := 12) (ty := .long) g14 (by simp) e17 e20 gw_160 gw_89 (by decide) (by decide) (by decide) (by decide) (by decide) dX7_init_17 ?_
  obtain ⟨g22, h23⟩ := qk_el h21; clear h21
  obtain ⟨S24, e25, h26⟩ := qv_el h23; clear h23
  refine yv_putPF (pc := 21) fn_501 rfl rfl (isb_el g22) e25 gw_166 dX7_init_21 ?_
  refine ev_aload_n (pc := 24) (i := 0) rfl rfl rfl dX7_init_24 ?_
  refine ev_bipush (pc := 25) (v := 7) (by decide) dX7_init_25 ?_
  refine ev_bipush (pc := 27) (v := 65) (by decide) dX7_init_27 ?_
  obtain ⟨g27, h28⟩ := qk_el h26; clear h26
  obtain ⟨b29, e30, h31⟩ := qv_el h28; clear h28
  obtain ⟨S32, e33, h34⟩ := qv_el h31; clear h31
  refine zv_mna (pc := 29) (by omega) (by omega) (k := 4) (j := 1042) (ok := 17) (ik := 11) (ty := .int) g27 (by simp) e30 e33 gw_162 gw_193 (by decide) (by decide) (by decide) (by decide) (by decide) dX7_init_29 ?_
  obtain ⟨g35, h36⟩ := qk_el h34; clear h34
  obtain ⟨S37, e38, h39⟩ := qv_el h36; clear h36
  refine yv_putPF (pc := 33) fn_502 rfl rfl (isb_el g35) e38 gw_167 dX7_init_33 ?_
  refine ev_aload_n (pc := 36) (i := 0) rfl rfl rfl dX7_init_36 ?_
  refine ev_bipush (pc := 37) (v := 7) (by decide) dX7_init_37 ?_
  obtain ⟨g40, h41⟩ := qk_el h39; clear h39
  obtain ⟨b42, e43, h44⟩ := qv_el h41; clear h41
  obtain ⟨S45, e46, h47⟩ := qv_el h44; clear h44
  refine zv_newa (pc := 39) (by omega) (by omega) (k := 3) (j := 1035) (kd := 11) (N := 7) (atype := .int) g40 (by simp) e43 e46 gw_193 (by decide) (by decide) (by decide) dX7_init_39 ?_
  obtain ⟨S48, e49, h50⟩ := qv_el h47; clear h47
  refine yv_putPF (pc := 41) fn_503 rfl rfl (is_nK (is_sP (isb_el g35) e38) e46) e49 gw_168 dX7_init_41 ?_
  refine ev_aload_n (pc := 44) (i := 0) rfl rfl rfl dX7_init_44 ?_
  refine ev_bipush (pc := 45) (v := 8) (by decide) dX7_init_45 ?_
  obtain ⟨g51, h52⟩ := qk_el h50; clear h50
  obtain ⟨b53, e54, h55⟩ := qv_el h52; clear h52
  obtain ⟨S56, e57, h58⟩ := qv_el h55; clear h55
  refine zv_newa (pc := 47) (by omega) (by omega) (k := 2) (j := 1027) (kd := 11) (N := 8) (atype := .int) g51 (by simp) e54 e57 gw_193 (by decide) (by decide) (by decide) dX7_init_47 ?_
  obtain ⟨S59, e60, h61⟩ := qv_el h58; clear h58
  refine yv_putPF (pc := 49) fn_504 rfl rfl (is_nK (is_sP (is_nK (is_sP (isb_el g35) e38) e46) e49) e57) e60 gw_169 dX7_init_49 ?_
  refine ev_aload_n (pc := 52) (i := 0) rfl rfl rfl dX7_init_52 ?_
  refine ev_iconst (pc := 53) (v := 3) (by decide) dX7_init_53 ?_
  obtain ⟨g62, h63⟩ := qk_el h61; clear h61
  obtain ⟨b64, e65, h66⟩ := qv_el h63; clear h63
  obtain ⟨S67, e68, h69⟩ := qv_el h66; clear h66
  refine zv_newa (pc := 54) (by omega) (by omega) (k := 1) (j := 1024) (kd := 11) (N := 3) (atype := .int) g62 (by simp) e65 e68 gw_193 (by decide) (by decide) (by decide) dX7_init_54 ?_
  obtain ⟨S70, e71, h72⟩ := qv_el h69; clear h69
  refine yv_putPF (pc := 56) fn_505 rfl rfl (is_nK (is_sP (is_nK (is_sP (is_nK (is_sP (isb_el g35) e38) e46) e49) e57) e60) e68) e71 gw_170 dX7_init_56 ?_
  refine ev_aload_n (pc := 59) (i := 0) rfl rfl rfl dX7_init_59 ?_
  refine ev_iconst (pc := 60) (v := 0) (by decide) dX7_init_60 ?_
  obtain ⟨S73, e74, h75⟩ := qv_el h72; clear h72
  refine yv_putI (pc := 61) fn_506 ⟨rfl, rfl⟩ (is_sP (is_nK (is_sP (is_nK (is_sP (is_nK (is_sP (isb_el g35) e38) e46) e49) e57) e60) e68) e71) e74 gw_171 dX7_init_61 ?_
  refine ev_aload_n (pc := 64) (i := 0) rfl rfl rfl dX7_init_64 ?_
  refine ev_sipush (pc := 65) (v := 1024) (by decide) dX7_init_65 ?_
  obtain ⟨g76, h77⟩ := qk_el h75; clear h75
  obtain ⟨b78, e79, h80⟩ := qv_el h77; clear h77
  obtain ⟨S81, e82, h83⟩ := qv_el h80; clear h80
  refine zv_newa (pc := 68) (by omega) (by omega) (k := 0) (j := 0) (kd := 12) (N := 1024) (atype := .long) g76 (by simp) e79 e82 gw_89 (by decide) (by decide) (by decide) dX7_init_68 ?_
  obtain ⟨S84, e85, h86⟩ := qv_el h83; clear h83
  refine yv_putPF (pc := 70) fn_507 rfl rfl (is_nK (is_sI (is_sP (is_nK (is_sP (is_nK (is_sP (is_nK (is_sP (isb_el g35) e38) e46) e49) e57) e60) e68) e71) e74) e82) e85 gw_172 dX7_init_70 ?_
  refine ev_aload_n (pc := 73) (i := 0) rfl rfl rfl dX7_init_73 ?_
  refine ev_lconst (pc := 74) (v := 0) (by decide) dX7_init_74 ?_
  obtain ⟨S87, e88, h89⟩ := qv_el h86; clear h86
  refine yv_putJ (pc := 75) fn_508 (is_sP (is_nK (is_sI (is_sP (is_nK (is_sP (is_nK (is_sP (is_nK (is_sP (isb_el g35) e38) e46) e49) e57) e60) e68) e71) e74) e82) e85) e88 gw_173 dX7_init_75 ?_
  exact ev_return (pc := 78) rfl (qRU_eq h89) dX7_init_78
theorem dX0_init_0 : decode cX0_init 0 = .ok (.aload_n 0, 1) := by decide +kernel
theorem dX0_init_1 : decode cX0_init 1 = .ok (.invokespecial 3, 3) := by decide +kernel
theorem dX0_init_4 : decode cX0_init 4 = .ok (.aload_n 0, 1) := by decide +kernel
theorem dX0_init_5 : decode cX0_init 5 = .ok (.iconst 0, 1) := by decide +kernel
theorem dX0_init_6 : decode cX0_init 6 = .ok (.putfield 9, 3) := by decide +kernel
theorem dX0_init_9 : decode cX0_init 9 = .ok (.aload_n 0, 1) := by decide +kernel
theorem dX0_init_10 : decode cX0_init 10 = .ok (.lconst 0, 1) := by decide +kernel
theorem dX0_init_11 : decode cX0_init 11 = .ok (.putfield 15, 3) := by decide +kernel
theorem dX0_init_14 : decode cX0_init 14 = .ok (.aload_n 0, 1) := by decide +kernel
theorem dX0_init_15 : decode cX0_init 15 = .ok (.lconst 0, 1) := by decide +kernel
theorem dX0_init_16 : decode cX0_init 16 = .ok (.putfield 19, 3) := by decide +kernel
theorem dX0_init_19 : decode cX0_init 19 = .ok (.aload_n 0, 1) := by decide +kernel
theorem dX0_init_20 : decode cX0_init 20 = .ok (.lconst 0, 1) := by decide +kernel
theorem dX0_init_21 : decode cX0_init 21 = .ok (.putfield 22, 3) := by decide +kernel
theorem dX0_init_24 : decode cX0_init 24 = .ok (.aload_n 0, 1) := by decide +kernel
theorem dX0_init_25 : decode cX0_init 25 = .ok (.lconst 0, 1) := by decide +kernel
theorem dX0_init_26 : decode cX0_init 26 = .ok (.putfield 25, 3) := by decide +kernel
theorem dX0_init_29 : decode cX0_init 29 = .ok (.aload_n 0, 1) := by decide +kernel
theorem dX0_init_30 : decode cX0_init 30 = .ok (.iconst 0, 1) := by decide +kernel
theorem dX0_init_31 : decode cX0_init 31 = .ok (.putfield 28, 3) := by decide +kernel
theorem dX0_init_34 : decode cX0_init 34 = .ok (.aload_n 0, 1) := by decide +kernel
theorem dX0_init_35 : decode cX0_init 35 = .ok (.iconst 0, 1) := by decide +kernel
theorem dX0_init_36 : decode cX0_init 36 = .ok (.putfield 31, 3) := by decide +kernel
theorem dX0_init_39 : decode cX0_init 39 = .ok (.aload_n 0, 1) := by decide +kernel
theorem dX0_init_40 : decode cX0_init 40 = .ok (.iconst 0, 1) := by decide +kernel
theorem dX0_init_41 : decode cX0_init 41 = .ok (.putfield 35, 3) := by decide +kernel
theorem dX0_init_44 : decode cX0_init 44 = .ok (.aload_n 0, 1) := by decide +kernel
theorem dX0_init_45 : decode cX0_init 45 = .ok (.iconst 0, 1) := by decide +kernel
theorem dX0_init_46 : decode cX0_init 46 = .ok (.putfield 38, 3) := by decide +kernel
theorem dX0_init_49 : decode cX0_init 49 = .ok (.return_, 1) := by decide +kernel
theorem e_X0_init {X : gk_X} {F : Nat} {S : gk_S} {a : Nat} {r : (Unit × gk_S)} (h0 : f_X0_init F S a = some r) : EvM X m_X0_init 1 0 0 [.ref a] S (qRU r) := by
  unfold f_X0_init at h0
  refine ev_method (by decide +kernel) rfl rfl (Nat.le_of_ble_eq_true rfl) ?_
  show EvW X m_X0_init 1 0 0 0 [some (.ref a)] [] S _
  refine ev_aload_n (pc := 0) (i := 0) rfl rfl rfl dX0_init_0 ?_
  refine ev_objInit (pc := 1) gw_206 gw_31 gw_32 (by decide) (by simp) (by decide) dX0_init_1 ?_
  refine ev_aload_n (pc := 4) (i := 0) rfl rfl rfl dX0_init_4 ?_
  refine ev_iconst (pc := 5) (v := 0) (by decide) dX0_init_5 ?_
  obtain ⟨g1, h2⟩ := qk_el h0; clear h0
  obtain ⟨S3, e4, h5⟩ := qv_el h2; clear h2
  refine yv_putI (pc := 6) fn_0 ⟨rfl, rfl⟩ (isb_el g1) e4 gw_207 dX0_init_6 ?_
  refine ev_aload_n (pc := 9) (i := 0) rfl rfl rfl dX0_init_9 ?_
  refine ev_lconst (pc := 10) (v := 0) (by decide) dX0_init_10 ?_
  obtain ⟨S6, e7, h8⟩ := qv_el h5; clear h5
  refine yv_putJ (pc := 11) fn_1 (is_sI (isb_el g1) e4) e7 gw_208 dX0_init_11 ?_
  refine ev_aload_n (pc := 14) (i := 0) rfl rfl rfl dX0_init_14 ?_
  refine ev_lconst (pc := 15) (v := 0) (by decide) dX0_init_15 ?_
  obtain ⟨S9, e10, h11⟩ := qv_el h8; clear h8
  refine yv_putJ (pc := 16) fn_2 (is_sJ (is_sI (isb_el g1) e4) e7) e10 gw_209 dX0_init_16 ?_
  refine ev_aload_n (pc := 19) (i := 0) rfl rfl rfl dX0_init_19 ?_
  refine ev_lconst (pc := 20) (v := 0) (by decide) dX0_init_20 ?_
  obtain ⟨S12, e13, h14⟩ := qv_el h11; clear h11
  refine yv_putJ (pc := 21) fn_3 (is_sJ (is_sJ (is_sI (isb_el g1) e4) e7) e10) e13 gw_210 dX0_init_21 ?_
  refine ev_aload_n (pc := 24) (i := 0) rfl rfl rfl dX0_init_24 ?_
  refine ev_lconst (pc := 25) (v := 0) (by decide) dX0_init_25 ?_
  obtain ⟨S15, e16, h17⟩ := qv_el h14; clear h14
  refine yv_putJ (pc := 26) fn_4 (is_sJ (is_sJ (is_sJ (is_sI (isb_el g1) e4) e7) e10) e13) e16 gw_211 dX0_init_26 ?_
  refine ev_aload_n (pc := 29) (i := 0) rfl rfl rfl dX0_init_29 ?_
  refine ev_iconst (pc := 30) (v := 0) (by decide) dX0_init_30 ?_
  obtain ⟨S18, e19, h20⟩ := qv_el h17; clear h17
  refine yv_putI (pc := 31) fn_5 ⟨rfl, rfl⟩ (is_sJ (is_sJ (is_sJ (is_sJ (is_sI (isb_el g1) e4) e7) e10) e13) e16) e19 gw_212 dX0_init_31 ?_
  refine ev_aload_n (pc := 34) (i := 0) rfl rfl rfl dX0_init_34 ?_
  refine ev_iconst (pc := 35) (v := 0) (by decide) dX0_init_35 ?_
  obtain ⟨S21, e22, h23⟩ := qv_el h20; clear h20
  refine yv_putI (pc := 36) fn_6 ⟨rfl, rfl⟩ (is_sI (is_sJ (is_sJ (is_sJ (is_sJ (is_sI (isb_el g1) e4) e7) e10) e13) e16) e19) e22 gw_213 dX0_init_36 ?_
  refine ev_aload_n (pc := 39) (i := 0) rfl rfl rfl dX0_init_39 ?_
  refine ev_iconst (pc := 40) (v := 0) (by decide) dX0_init_40 ?_
  obtain ⟨S24, e25, h26⟩ := qv_el h23; clear h23
  refine yv_putI (pc := 41) fn_7 ⟨rfl, rfl⟩ (is_sI (is_sI (is_sJ (is_sJ (is_sJ (is_sJ (is_sI (isb_el g1) e4) e7) e10) e13) e16) e19) e22) e25 gw_215 dX0_init_41 ?_
  refine ev_aload_n (pc := 44) (i := 0) rfl rfl rfl dX0_init_44 ?_
  refine ev_iconst (pc := 45) (v := 0) (by decide) dX0_init_45 ?_
  obtain ⟨S27, e28, h29⟩ := qv_el h26; clear h26
  refine yv_putI (pc := 46) fn_8 ⟨rfl, rfl⟩ (is_sI (is_sI (is_sI (is_sJ (is_sJ (is_sJ (is_sJ (is_sI (isb_el g1) e4) e7) e10) e13) e16) e19) e22) e25) e28 gw_216 dX0_init_46 ?_
  exact ev_return (pc := 49) rfl (qRU_eq h29) dX0_init_49
theorem dX8_init_0 : decode cX8_init 0 = .ok (.aload_n 0, 1) := by decide +kernel
theorem dX8_init_1 : decode cX8_init 1 = .ok (.invokespecial 3, 3) := by decide +kernel
theorem dX8_init_4 : decode cX8_init 4 = .ok (.aload_n 0, 1) := by decide +kernel
theorem dX8_init_5 : decode cX8_init 5 = .ok (.bipush 64, 2) := by decide +kernel
theorem dX8_init_7 : decode cX8_init 7 = .ok (.anewarray 11, 3) := by decide +kernel
theorem dX8_init_10 : decode cX8_init 10 = .ok (.putfield 13, 3) := by decide +kernel
theorem dX8_init_13 : decode cX8_init 13 = .ok (.iconst 0, 1) := by decide +kernel
theorem dX8_init_14 : decode cX8_init 14 = .ok (.istore_n 1, 1) := by decide +kernel
theorem dX8_init_15 : decode cX8_init 15 = .ok (.iload_n 1, 1) := by decide +kernel
theorem dX8_init_16 : decode cX8_init 16 = .ok (.bipush 64, 2) := by decide +kernel
theorem dX8_init_18 : decode cX8_init 18 = .ok (.if_icmp .ge 22, 3) := by decide +kernel
theorem dX8_init_21 : decode cX8_init 21 = .ok (.aload_n 0, 1) := by decide +kernel
theorem dX8_init_22 : decode cX8_init 22 = .ok (.getfield 13, 3) := by decide +kernel
theorem dX8_init_25 : decode cX8_init 25 = .ok (.iload_n 1, 1) := by decide +kernel
theorem dX8_init_26 : decode cX8_init 26 = .ok (.new 11, 3) := by decide +kernel
theorem dX8_init_29 : decode cX8_init 29 = .ok (.dup, 1) := by decide +kernel
theorem dX8_init_30 : decode cX8_init 30 = .ok (.invokespecial 17, 3) := by decide +kernel
theorem dX8_init_33 : decode cX8_init 33 = .ok (.aastore, 1) := by decide +kernel
theorem dX8_init_34 : decode cX8_init 34 = .ok (.iinc 1 1, 3) := by decide +kernel
theorem dX8_init_37 : decode cX8_init 37 = .ok (.goto (-22), 3) := by decide +kernel
theorem dX8_init_40 : decode cX8_init 40 = .ok (.aload_n 0, 1) := by decide +kernel
theorem dX8_init_41 : decode cX8_init 41 = .ok (.iconst 0, 1) := by decide +kernel
theorem dX8_init_42 : decode cX8_init 42 = .ok (.putfield 18, 3) := by decide +kernel
theorem dX8_init_45 : decode cX8_init 45 = .ok (.aload_n 0, 1) := by decide +kernel
theorem dX8_init_46 : decode cX8_init 46 = .ok (.bipush 8, 2) := by decide +kernel
theorem dX8_init_48 : decode cX8_init 48 = .ok (.putfield 22, 3) := by decide +kernel
theorem dX8_init_51 : decode cX8_init 51 = .ok (.aload_n 0, 1) := by decide +kernel
theorem dX8_init_52 : decode cX8_init 52 = .ok (.iconst 0, 1) := by decide +kernel
theorem dX8_init_53 : decode cX8_init 53 = .ok (.putfield 25, 3) := by decide +kernel
theorem dX8_init_56 : decode cX8_init 56 = .ok (.aload_n 0, 1) := by decide +kernel
theorem dX8_init_57 : decode cX8_init 57 = .ok (.iconst 0, 1) := by decide +kernel
theorem dX8_init_58 : decode cX8_init 58 = .ok (.putfield 28, 3) := by decide +kernel
theorem dX8_init_61 : decode cX8_init 61 = .ok (.aload_n 0, 1) := by decide +kernel
theorem dX8_init_62 : decode cX8_init 62 = .ok (.iconst 0, 1) := by decide +kernel
theorem dX8_init_63 : decode cX8_init 63 = .ok (.putfield 31, 3) := by decide +kernel
theorem dX8_init_66 : decode cX8_init 66 = .ok (.return_, 1) := by decide +kernel
theorem e_X8_init_15 {X : gk_X} {F : Nat} : ∀ (n : Nat) (l0 : Nat) (l1 : Int32) (S : gk_S) (r : (Unit × gk_S)), f_X8_init_15 F n l0 l1 S = some r → EvW X m_X8_init 2 (0 + 1 * n) (0 + 9 * n) 15 [some (.ref l0), some (.int l1)] [] S (qRU r) := by
  intro n
  induction n with
  | zero => intro l0 l1 S r h0; rw [f_X8_init_15] at h0; cases h0
  | succ n ih =>
    intro l0 l1 S r h0; rw [f_X8_init_15] at h0
    refine ev_bud (k' := (1 + 1 * n)) (j' := (9 + 9 * n)) (by omega) (by omega) ?_
    refine ev_iload_n (pc := 15) (i := 1) rfl rfl dX8_init_15 ?_
    refine ev_bipush (pc := 16) (v := 64) (by decide) dX8_init_16 ?_
    refine ev_ic_ge (pc := 18) (tgt := 40) (by decide) dX8_init_18 (fun c14 => ?_) (fun c14 => ?_)
    · replace h0 := qi_t h0 c14
      refine ev_aload_n (pc := 40) (i := 0) rfl rfl rfl dX8_init_40 ?_
      refine ev_iconst (pc := 41) (v := 0) (by decide) dX8_init_41 ?_
      obtain ⟨g16, h17⟩ := qk_el h0; clear h0
      obtain ⟨S18, e19, h20⟩ := qv_el h17; clear h17
      refine yv_putI (pc := 42) fn_601 ⟨rfl, rfl⟩ (isb_el g16) e19 gw_238 dX8_init_42 ?_
      refine ev_aload_n (pc := 45) (i := 0) rfl rfl rfl dX8_init_45 ?_
      refine ev_bipush (pc := 46) (v := 8) (by decide) dX8_init_46 ?_
      obtain ⟨S21, e22, h23⟩ := qv_el h20; clear h20
      refine yv_putI (pc := 48) fn_602 ⟨rfl, rfl⟩ (is_sI (isb_el g16) e19) e22 gw_240 dX8_init_48 ?_
      refine ev_aload_n (pc := 51) (i := 0) rfl rfl rfl dX8_init_51 ?_
      refine ev_iconst (pc := 52) (v := 0) (by decide) dX8_init_52 ?_
      obtain ⟨S24, e25, h26⟩ := qv_el h23; clear h23
      refine yv_putI (pc := 53) fn_603 ⟨rfl, rfl⟩ (is_sI (is_sI (isb_el g16) e19) e22) e25 gw_242 dX8_init_53 ?_
      refine ev_aload_n (pc := 56) (i := 0) rfl rfl rfl dX8_init_56 ?_
      refine ev_iconst (pc := 57) (v := 0) (by decide) dX8_init_57 ?_
      obtain ⟨S27, e28, h29⟩ := qv_el h26; clear h26
      refine yv_putI (pc := 58) fn_604 ⟨rfl, rfl⟩ (is_sI (is_sI (is_sI (isb_el g16) e19) e22) e25) e28 gw_244 dX8_init_58 ?_
      refine ev_aload_n (pc := 61) (i := 0) rfl rfl rfl dX8_init_61 ?_
      refine ev_iconst (pc := 62) (v := 0) (by decide) dX8_init_62 ?_
      obtain ⟨S30, e31, h32⟩ := qv_el h29; clear h29
      refine yv_putI (pc := 63) fn_605 ⟨rfl, rfl⟩ (is_sI (is_sI (is_sI (is_sI (isb_el g16) e19) e22) e25) e28) e31 gw_246 dX8_init_63 ?_
      exact ev_return (pc := 66) rfl (qRU_eq h32) dX8_init_66
    · replace h0 := qi_f h0 c14
      refine ev_aload_n (pc := 21) (i := 0) rfl rfl rfl dX8_init_21 ?_
      obtain ⟨g33, h34⟩ := qk_el h0; clear h0
      obtain ⟨b35, e36, h37⟩ := qP_el h34; clear h34
      refine xv_getP (pc := 22) fn_600 (isb_el g33) e36 gw_237 dX8_init_22 ?_
      refine ev_iload_n (pc := 25) (i := 1) rfl rfl dX8_init_25 ?_
      obtain ⟨g38, h39⟩ := qk_el h37; clear h37
      obtain ⟨b40, e41, h42⟩ := qv_el h39; clear h39
      obtain ⟨S43, e44, h45⟩ := qv_el h42; clear h42
      refine zv_new (pc := 26) (nf := 9) (by omega) (by omega) rfl (k := (0 + 1 * n)) (j := (0 + 9 * n)) (ci := 0) g38 (by decide) e41 e44 gw_200 gw_202 gw_8 dX8_init_26 ?_
      refine ev_dup (pc := 29) (.inr rfl) dX8_init_29 ?_
      obtain ⟨x46, S47, e48, h49⟩ := qc_el h45; clear h45
      refine xv_callI (pc := 30) (k := (0 + 1 * n)) (j := (0 + 9 * n)) (st := [.ref b40, .int l1, .ref b35]) (as := []) (v := none) (S' := S47) ok_X0_init (e_X0_init e48) (by omega) (by omega) (by decide) rfl (Nat.le_of_ble_eq_true rfl) rfl gw_203 dX8_init_30 ?_
      obtain ⟨g50, h51⟩ := qk_el h49; clear h49
      obtain ⟨g52, h53⟩ := qk_el h51; clear h51
      obtain ⟨g54, h55⟩ := qk_el h53; clear h53
      obtain ⟨S56, e57, h58⟩ := qv_el h55; clear h55
      refine yv_aast (pc := 33) (isb_el g50) (by decide) (isb_el g52) (inb_el g54) e57 dX8_init_33 ?_
      refine ev_iinc (pc := 34) (L' := [some (.ref l0), some (.int (l1 + 1))]) (i := 1) (v := (l1 + 1)) rfl rfl (by decide) rfl rfl dX8_init_34 ?_
      refine ev_goto (pc := 37) (tgt := 15) (by decide) dX8_init_37 ?_
      exact ev_mono (Nat.le_refl _) (by omega) (by omega) (ev_weak (qL_s (qL_s qL_nil)) (ih _ _ _ _ h58))
theorem e_X8_init {X : gk_X} {F : Nat} {S : gk_S} {a : Nat} {r : (Unit × gk_S)} (h0 : f_X8_init F S a = some r) : EvM X m_X8_init 2 66 649 [.ref a] S (qRU r) := by
  unfold f_X8_init at h0
  refine ev_method (by decide +kernel) rfl rfl (Nat.le_of_ble_eq_true rfl) ?_
  show EvW X m_X8_init 2 66 649 0 [some (.ref a), none] [] S _
  refine ev_aload_n (pc := 0) (i := 0) rfl rfl rfl dX8_init_0 ?_
  refine ev_objInit (pc := 1) gw_199 gw_31 gw_32 (by decide) (by simp) (by decide) dX8_init_1 ?_
  refine ev_aload_n (pc := 4) (i := 0) rfl rfl rfl dX8_init_4 ?_
  refine ev_bipush (pc := 5) (v := 64) (by decide) dX8_init_5 ?_
  obtain ⟨g1, h2⟩ := qk_el h0; clear h0
  obtain ⟨b3, e4, h5⟩ := qv_el h2; clear h2
  obtain ⟨S6, e7, h8⟩ := qv_el h5; clear h5
  refine zv_newq (pc := 7) (by omega) (by omega) (k := 65) (j := 585) (kd := 14) (N := 64) g1 (by decide) e4 e7 gw_200 (by decide) (by decide) (by decide) dX8_init_7 ?_
  obtain ⟨g9, h10⟩ := qk_el h8; clear h8
  obtain ⟨S11, e12, h13⟩ := qv_el h10; clear h10
  refine yv_putPF (pc := 10) fn_600 rfl rfl (isb_el g9) e12 gw_237 dX8_init_10 ?_
  refine ev_iconst (pc := 13) (v := 0) (by decide) dX8_init_13 ?_
  refine ev_istore_n (pc := 14) (L' := [some (.ref a), some (.int 0)]) (i := 1) rfl (by decide) rfl rfl dX8_init_14 ?_
  exact ev_weak (qL_s (qL_s qL_nil)) (e_X8_init_15 65 _ _ _ _ h13)
theorem dX3_init_0 : decode cX3_init 0 = .ok (.aload_n 0, 1) := by decide +kernel
theorem dX3_init_1 : decode cX3_init 1 = .ok (.invokespecial 3, 3) := by decide +kernel
theorem dX3_init_4 : decode cX3_init 4 = .ok (.aload_n 0, 1) := by decide +kernel
theorem dX3_init_5 : decode cX3_init 5 = .ok (.bipush 6, 2) := by decide +kernel
theorem dX3_init_7 : decode cX3_init 7 = .ok (.newarray .long, 2) := by decide +kernel
theorem dX3_init_9 : decode cX3_init 9 = .ok (.putfield 9, 3) := by decide +kernel
theorem dX3_init_12 : decode cX3_init 12 = .ok (.aload_n 0, 1) := by decide +kernel
theorem dX3_init_13 : decode cX3_init 13 = .ok (.iconst 0, 1) := by decide +kernel
theorem dX3_init_14 : decode cX3_init 14 = .ok (.putfield 15, 3) := by decide +kernel
theorem dX3_init_17 : decode cX3_init 17 = .ok (.return_, 1) := by decide +kernel
theorem e_X3_init {X : gk_X} {F : Nat} {S : gk_S} {a : Nat} {r : (Unit × gk_S)} (h0 : f_X3_init F S a = some r) : EvM X m_X3_init 1 1 6 [.ref a] S (qRU r) := by
  unfold f_X3_init at h0
  refine ev_method (by decide +kernel) rfl rfl (Nat.le_of_ble_eq_true rfl) ?_
  show EvW X m_X3_init 1 1 6 0 [some (.ref a)] [] S _
  refine ev_aload_n (pc := 0) (i := 0) rfl rfl rfl dX3_init_0 ?_
  refine ev_objInit (pc := 1) gw_266 gw_31 gw_32 (by decide) (by simp) (by decide) dX3_init_1 ?_
  refine ev_aload_n (pc := 4) (i := 0) rfl rfl rfl dX3_init_4 ?_
  refine ev_bipush (pc := 5) (v := 6) (by decide) dX3_init_5 ?_
  obtain ⟨g1, h2⟩ := qk_el h0; clear h0
  obtain ⟨b3, e4, h5⟩ := qv_el h2; clear h2
  obtain ⟨S6, e7, h8⟩ := qv_el h5; clear h5
  refine zv_newa (pc := 7) (by omega) (by omega) (k := 0) (j := 0) (kd := 12) (N := 6) (atype := .long) g1 (by simp) e4 e7 gw_89 (by decide) (by decide) (by decide) dX3_init_7 ?_
  obtain ⟨g9, h10⟩ := qk_el h8; clear h8
  obtain ⟨S11, e12, h13⟩ := qv_el h10; clear h10
  refine yv_putPF (pc := 9) fn_200 rfl rfl (isb_el g9) e12 gw_267 dX3_init_9 ?_
  refine ev_aload_n (pc := 12) (i := 0) rfl rfl rfl dX3_init_12 ?_
  refine ev_iconst (pc := 13) (v := 0) (by decide) dX3_init_13 ?_
  obtain ⟨S14, e15, h16⟩ := qv_el h13; clear h13
  refine yv_putI (pc := 14) fn_201 ⟨rfl, rfl⟩ (is_sP (isb_el g9) e12) e15 gw_272 dX3_init_14 ?_
  exact ev_return (pc := 17) rfl (qRU_eq h16) dX3_init_17
theorem dX11_init_0 : decode cX11_init 0 = .ok (.aload_n 0, 1) := by decide +kernel
theorem dX11_init_1 : decode cX11_init 1 = .ok (.invokespecial 1, 3) := by decide +kernel
theorem dX11_init_4 : decode cX11_init 4 = .ok (.aload_n 0, 1) := by decide +kernel
theorem dX11_init_5 : decode cX11_init 5 = .ok (.new 7, 3) := by decide +kernel
theorem dX11_init_8 : decode cX11_init 8 = .ok (.dup, 1) := by decide +kernel
theorem dX11_init_9 : decode cX11_init 9 = .ok (.sipush 2100, 3) := by decide +kernel
theorem dX11_init_12 : decode cX11_init 12 = .ok (.invokespecial 11, 3) := by decide +kernel
theorem dX11_init_15 : decode cX11_init 15 = .ok (.putfield 14, 3) := by decide +kernel
theorem dX11_init_18 : decode cX11_init 18 = .ok (.aload_n 0, 1) := by decide +kernel
theorem dX11_init_19 : decode cX11_init 19 = .ok (.new 7, 3) := by decide +kernel
theorem dX11_init_22 : decode cX11_init 22 = .ok (.dup, 1) := by decide +kernel
theorem dX11_init_23 : decode cX11_init 23 = .ok (.sipush 3000, 3) := by decide +kernel
theorem dX11_init_26 : decode cX11_init 26 = .ok (.invokespecial 11, 3) := by decide +kernel
theorem dX11_init_29 : decode cX11_init 29 = .ok (.putfield 18, 3) := by decide +kernel
theorem dX11_init_32 : decode cX11_init 32 = .ok (.aload_n 0, 1) := by decide +kernel
theorem dX11_init_33 : decode cX11_init 33 = .ok (.iconst 4, 1) := by decide +kernel
theorem dX11_init_34 : decode cX11_init 34 = .ok (.anewarray 21, 3) := by decide +kernel
theorem dX11_init_37 : decode cX11_init 37 = .ok (.putfield 23, 3) := by decide +kernel
theorem dX11_init_40 : decode cX11_init 40 = .ok (.iconst 0, 1) := by decide +kernel
theorem dX11_init_41 : decode cX11_init 41 = .ok (.istore_n 1, 1) := by decide +kernel
theorem dX11_init_42 : decode cX11_init 42 = .ok (.iload_n 1, 1) := by decide +kernel
theorem dX11_init_43 : decode cX11_init 43 = .ok (.iconst 4, 1) := by decide +kernel
theorem dX11_init_44 : decode cX11_init 44 = .ok (.if_icmp .ge 22, 3) := by decide +kernel
theorem dX11_init_47 : decode cX11_init 47 = .ok (.aload_n 0, 1) := by decide +kernel
theorem dX11_init_48 : decode cX11_init 48 = .ok (.getfield 23, 3) := by decide +kernel
theorem dX11_init_51 : decode cX11_init 51 = .ok (.iload_n 1, 1) := by decide +kernel
theorem dX11_init_52 : decode cX11_init 52 = .ok (.new 21, 3) := by decide +kernel
theorem dX11_init_55 : decode cX11_init 55 = .ok (.dup, 1) := by decide +kernel
theorem dX11_init_56 : decode cX11_init 56 = .ok (.invokespecial 27, 3) := by decide +kernel
theorem dX11_init_59 : decode cX11_init 59 = .ok (.aastore, 1) := by decide +kernel
theorem dX11_init_60 : decode cX11_init 60 = .ok (.iinc 1 1, 3) := by decide +kernel
theorem dX11_init_63 : decode cX11_init 63 = .ok (.goto (-21), 3) := by decide +kernel
theorem dX11_init_66 : decode cX11_init 66 = .ok (.aload_n 0, 1) := by decide +kernel
theorem dX11_init_67 : decode cX11_init 67 = .ok (.new 21, 3) := by decide +kernel
theorem dX11_init_70 : decode cX11_init 70 = .ok (.dup, 1) := by decide +kernel
theorem dX11_init_71 : decode cX11_init 71 = .ok (.invokespecial 27, 3) := by decide +kernel
theorem dX11_init_74 : decode cX11_init 74 = .ok (.putfield 28, 3) := by decide +kernel
theorem dX11_init_77 : decode cX11_init 77 = .ok (.aload_n 0, 1) := by decide +kernel
theorem dX11_init_78 : decode cX11_init 78 = .ok (.new 32, 3) := by decide +kernel
theorem dX11_init_81 : decode cX11_init 81 = .ok (.dup, 1) := by decide +kernel
theorem dX11_init_82 : decode cX11_init 82 = .ok (.aload_n 0, 1) := by decide +kernel
theorem dX11_init_83 : decode cX11_init 83 = .ok (.getfield 14, 3) := by decide +kernel
theorem dX11_init_86 : decode cX11_init 86 = .ok (.invokespecial 34, 3) := by decide +kernel
theorem dX11_init_89 : decode cX11_init 89 = .ok (.putfield 37, 3) := by decide +kernel
theorem dX11_init_92 : decode cX11_init 92 = .ok (.aload_n 0, 1) := by decide +kernel
theorem dX11_init_93 : decode cX11_init 93 = .ok (.new 41, 3) := by decide +kernel
theorem dX11_init_96 : decode cX11_init 96 = .ok (.dup, 1) := by decide +kernel
theorem dX11_init_97 : decode cX11_init 97 = .ok (.invokespecial 43, 3) := by decide +kernel
theorem dX11_init_100 : decode cX11_init 100 = .ok (.putfield 44, 3) := by decide +kernel
theorem dX11_init_103 : decode cX11_init 103 = .ok (.aload_n 0, 1) := by decide +kernel
theorem dX11_init_104 : decode cX11_init 104 = .ok (.new 48, 3) := by decide +kernel
theorem dX11_init_107 : decode cX11_init 107 = .ok (.dup, 1) := by decide +kernel
theorem dX11_init_108 : decode cX11_init 108 = .ok (.invokespecial 50, 3) := by decide +kernel
theorem dX11_init_111 : decode cX11_init 111 = .ok (.putfield 51, 3) := by decide +kernel
theorem dX11_init_114 : decode cX11_init 114 = .ok (.aload_n 0, 1) := by decide +kernel
theorem dX11_init_115 : decode cX11_init 115 = .ok (.new 55, 3) := by decide +kernel
theorem dX11_init_118 : decode cX11_init 118 = .ok (.dup, 1) := by decide +kernel
theorem dX11_init_119 : decode cX11_init 119 = .ok (.invokespecial 57, 3) := by decide +kernel
theorem dX11_init_122 : decode cX11_init 122 = .ok (.putfield 58, 3) := by decide +kernel
theorem dX11_init_125 : decode cX11_init 125 = .ok (.aload_n 0, 1) := by decide +kernel
theorem dX11_init_126 : decode cX11_init 126 = .ok (.new 55, 3) := by decide +kernel
theorem dX11_init_129 : decode cX11_init 129 = .ok (.dup, 1) := by decide +kernel
theorem dX11_init_130 : decode cX11_init 130 = .ok (.invokespecial 57, 3) := by decide +kernel
theorem dX11_init_133 : decode cX11_init 133 = .ok (.putfield 62, 3) := by decide +kernel
theorem dX11_init_136 : decode cX11_init 136 = .ok (.aload_n 0, 1) := by decide +kernel
theorem dX11_init_137 : decode cX11_init 137 = .ok (.new 55, 3) := by decide +kernel
theorem dX11_init_140 : decode cX11_init 140 = .ok (.dup, 1) := by decide +kernel
theorem dX11_init_141 : decode cX11_init 141 = .ok (.invokespecial 57, 3) := by decide +kernel
theorem dX11_init_144 : decode cX11_init 144 = .ok (.putfield 65, 3) := by decide +kernel
theorem dX11_init_147 : decode cX11_init 147 = .ok (.aload_n 0, 1) := by decide +kernel
theorem dX11_init_148 : decode cX11_init 148 = .ok (.bipush 7, 2) := by decide +kernel
theorem dX11_init_150 : decode cX11_init 150 = .ok (.newarray .long, 2) := by decide +kernel
theorem dX11_init_152 : decode cX11_init 152 = .ok (.putfield 68, 3) := by decide +kernel
theorem dX11_init_155 : decode cX11_init 155 = .ok (.aload_n 0, 1) := by decide +kernel
theorem dX11_init_156 : decode cX11_init 156 = .ok (.iconst 0, 1) := by decide +kernel
theorem dX11_init_157 : decode cX11_init 157 = .ok (.putfield 72, 3) := by decide +kernel
theorem dX11_init_160 : decode cX11_init 160 = .ok (.aload_n 0, 1) := by decide +kernel
theorem dX11_init_161 : decode cX11_init 161 = .ok (.iconst 0, 1) := by decide +kernel
theorem dX11_init_162 : decode cX11_init 162 = .ok (.putfield 76, 3) := by decide +kernel
theorem dX11_init_165 : decode cX11_init 165 = .ok (.aload_n 0, 1) := by decide +kernel
theorem dX11_init_166 : decode cX11_init 166 = .ok (.iconst 0, 1) := by decide +kernel
theorem dX11_init_167 : decode cX11_init 167 = .ok (.putfield 80, 3) := by decide +kernel
theorem dX11_init_170 : decode cX11_init 170 = .ok (.return_, 1) := by decide +kernel
theorem e_X11_init_42 {X : gk_X} {F : Nat} : ∀ (n : Nat) (l0 : Nat) (l1 : Int32) (S : gk_S) (r : (Unit × gk_S)), f_X11_init_42 F n l0 l1 S = some r → EvW X m_X11_init 3 (150 + 53 * n) (2988 + 309 * n) 42 [some (.ref l0), some (.int l1)] [] S (qRU r) := by
  intro n
  induction n with
  | zero => intro l0 l1 S r h0; rw [f_X11_init_42] at h0; cases h0
  | succ n ih =>
    intro l0 l1 S r h0; rw [f_X11_init_42] at h0
    refine ev_bud (k' := (203 + 53 * n)) (j' := (3297 + 309 * n)) (by omega) (by omega) ?_
    refine ev_iload_n (pc := 42) (i := 1) rfl rfl dX11_init_42 ?_
    refine ev_iconst (pc := 43) (v := 4) (by decide) dX11_init_43 ?_
    refine ev_ic_ge (pc := 44) (tgt := 66) (by decide) dX11_init_44 (fun c46 => ?_) (fun c46 => ?_)
    · replace h0 := qi_t h0 c46
      refine ev_aload_n (pc := 66) (i := 0) rfl rfl rfl dX11_init_66 ?_
      obtain ⟨g48, h49⟩ := qk_el h0; clear h0
      obtain ⟨b50, e51, h52⟩ := qv_el h49; clear h49
      obtain ⟨S53, e54, h55⟩ := qv_el h52; clear h52
      refine zv_new (pc := 67) (nf := 4) (by omega) (by omega) rfl (k := (202 + 53 * n)) (j := (3293 + 309 * n)) (ci := 4) g48 (by decide) e51 e54 gw_50 gw_52 gw_3 dX11_init_67 ?_
      refine ev_dup (pc := 70) (.inr rfl) dX11_init_70 ?_
      obtain ⟨x56, S57, e58, h59⟩ := qc_el h55; clear h55
      refine xv_callI (pc := 71) (k := (150 + 53 * n)) (j := (2988 + 309 * n)) (st := [.ref b50, .ref l0]) (as := []) (v := none) (S' := S57) ok_X6_init (e_X6_init e58) (by omega) (by omega) (by decide) rfl (Nat.le_of_ble_eq_true rfl) rfl gw_53 dX11_init_71 ?_
      obtain ⟨g60, h61⟩ := qk_el h59; clear h59
      obtain ⟨S62, e63, h64⟩ := qv_el h61; clear h61
      refine yv_putP (pc := 74) fn_810 (isb_el g60) e63 gw_292 dX11_init_74 ?_
      refine ev_aload_n (pc := 77) (i := 0) rfl rfl rfl dX11_init_77 ?_
      obtain ⟨g65, h66⟩ := qk_el h64; clear h64
      obtain ⟨b67, e68, h69⟩ := qv_el h66; clear h66
      obtain ⟨S70, e71, h72⟩ := qv_el h69; clear h69
      refine zv_new (pc := 78) (nf := 11) (by omega) (by omega) rfl (k := (149 + 53 * n)) (j := (2977 + 309 * n)) (ci := 7) g65 (by decide) e68 e71 gw_112 gw_113 gw_5 dX11_init_78 ?_
      refine ev_dup (pc := 81) (.inr rfl) dX11_init_81 ?_
      refine ev_aload_n (pc := 82) (i := 0) rfl rfl rfl dX11_init_82 ?_
      obtain ⟨b73, e74, h75⟩ := qP_el h72; clear h72
      refine xv_getP (pc := 83) fn_800 (is_nK (is_sP (isb_el g60) e63) e71) e74 gw_282 dX11_init_83 ?_
      obtain ⟨x76, S77, e78, h79⟩ := qc_el h75; clear h75
      refine xv_callI (pc := 86) (k := (149 + 53 * n)) (j := (2977 + 309 * n)) (st := [.ref b67, .ref l0]) (as := [.ref b73]) (v := none) (S' := S77) ok_X9_init (e_X9_init e78) (by omega) (by omega) (by decide) rfl (Nat.le_of_ble_eq_true rfl) rfl gw_114 dX11_init_86 ?_
      obtain ⟨g80, h81⟩ := qk_el h79; clear h79
      obtain ⟨S82, e83, h84⟩ := qv_el h81; clear h81
      refine yv_putPF (pc := 89) fn_803 rfl rfl (isb_el g80) e83 gw_285 dX11_init_89 ?_
      refine ev_aload_n (pc := 92) (i := 0) rfl rfl rfl dX11_init_92 ?_
      obtain ⟨g85, h86⟩ := qk_el h84; clear h84
      obtain ⟨b87, e88, h89⟩ := qv_el h86; clear h86
      obtain ⟨S90, e91, h92⟩ := qv_el h89; clear h89
      refine zv_new (pc := 93) (nf := 9) (by omega) (by omega) rfl (k := (148 + 53 * n)) (j := (2968 + 309 * n)) (ci := 5) g85 (by decide) e88 e91 gw_154 gw_155 gw_6 dX11_init_93 ?_
      refine ev_dup (pc := 96) (.inr rfl) dX11_init_96 ?_
      obtain ⟨x93, S94, e95, h96⟩ := qc_el h92; clear h92
      refine xv_callI (pc := 97) (k := (127 + 53 * n)) (j := (995 + 309 * n)) (st := [.ref b87, .ref l0]) (as := []) (v := none) (S' := S94) ok_X7_init (e_X7_init e95) (by omega) (by omega) (by decide) rfl (Nat.le_of_ble_eq_true rfl) rfl gw_156 dX11_init_97 ?_
      obtain ⟨g97, h98⟩ := qk_el h96; clear h96
      obtain ⟨S99, e100, h101⟩ := qv_el h98; clear h98
      refine yv_putPF (pc := 100) fn_804 rfl rfl (isb_el g97) e100 gw_286 dX11_init_100 ?_
      refine ev_aload_n (pc := 103) (i := 0) rfl rfl rfl dX11_init_103 ?_
      obtain ⟨g102, h103⟩ := qk_el h101; clear h101
      obtain ⟨b104, e105, h106⟩ := qv_el h103; clear h103
      obtain ⟨S107, e108, h109⟩ := qv_el h106; clear h106
      refine zv_new (pc := 104) (nf := 6) (by omega) (by omega) rfl (k := (126 + 53 * n)) (j := (989 + 309 * n)) (ci := 6) g102 (by decide) e105 e108 gw_194 gw_195 gw_7 dX11_init_104 ?_
      refine ev_dup (pc := 107) (.inr rfl) dX11_init_107 ?_
      obtain ⟨x110, S111, e112, h113⟩ := qc_el h109; clear h109
      refine xv_callI (pc := 108) (k := (60 + 53 * n)) (j := (340 + 309 * n)) (st := [.ref b104, .ref l0]) (as := []) (v := none) (S' := S111) ok_X8_init (e_X8_init e112) (by omega) (by omega) (by decide) rfl (Nat.le_of_ble_eq_true rfl) rfl gw_196 dX11_init_108 ?_
      obtain ⟨g114, h115⟩ := qk_el h113; clear h113
      obtain ⟨S116, e117, h118⟩ := qv_el h115; clear h115
      refine yv_putPF (pc := 111) fn_805 rfl rfl (isb_el g114) e117 gw_287 dX11_init_111 ?_
      refine ev_aload_n (pc := 114) (i := 0) rfl rfl rfl dX11_init_114 ?_
      obtain ⟨g119, h120⟩ := qk_el h118; clear h118
      obtain ⟨b121, e122, h123⟩ := qv_el h120; clear h120
      obtain ⟨S124, e125, h126⟩ := qv_el h123; clear h123
      refine zv_new (pc := 115) (nf := 2) (by omega) (by omega) rfl (k := (59 + 53 * n)) (j := (338 + 309 * n)) (ci := 2) g119 (by decide) e122 e125 gw_261 gw_262 gw_9 dX11_init_115 ?_
      refine ev_dup (pc := 118) (.inr rfl) dX11_init_118 ?_
      obtain ⟨x127, S128, e129, h130⟩ := qc_el h126; clear h126
      refine xv_callI (pc := 119) (k := (58 + 53 * n)) (j := (332 + 309 * n)) (st := [.ref b121, .ref l0]) (as := []) (v := none) (S' := S128) ok_X3_init (e_X3_init e129) (by omega) (by omega) (by decide) rfl (Nat.le_of_ble_eq_true rfl) rfl gw_263 dX11_init_119 ?_
      obtain ⟨g131, h132⟩ := qk_el h130; clear h130
      obtain ⟨S133, e134, h135⟩ := qv_el h132; clear h132
      refine yv_putPF (pc := 122) fn_806 rfl rfl (isb_el g131) e134 gw_288 dX11_init_122 ?_
      refine ev_aload_n (pc := 125) (i := 0) rfl rfl rfl dX11_init_125 ?_
      obtain ⟨g136, h137⟩ := qk_el h135; clear h135
      obtain ⟨b138, e139, h140⟩ := qv_el h137; clear h137
      obtain ⟨S141, e142, h143⟩ := qv_el h140; clear h140
      refine zv_new (pc := 126) (nf := 2) (by omega) (by omega) rfl (k := (57 + 53 * n)) (j := (330 + 309 * n)) (ci := 2) g136 (by decide) e139 e142 gw_261 gw_262 gw_9 dX11_init_126 ?_
      refine ev_dup (pc := 129) (.inr rfl) dX11_init_129 ?_
      obtain ⟨x144, S145, e146, h147⟩ := qc_el h143; clear h143
      refine xv_callI (pc := 130) (k := (56 + 53 * n)) (j := (324 + 309 * n)) (st := [.ref b138, .ref l0]) (as := []) (v := none) (S' := S145) ok_X3_init (e_X3_init e146) (by omega) (by omega) (by decide) rfl (Nat.le_of_ble_eq_true rfl) rfl gw_263 dX11_init_130 ?_
      obtain ⟨g148, h149⟩ := qk_el h147; clear h147
      obtain ⟨S150, e151, h152⟩ := qv_el h149; clear h149
      refine yv_putPF (pc := 133) fn_807 rfl rfl (isb_el g148) e151 gw_289 dX11_init_133 ?_
      refine ev_aload_n (pc := 136) (i := 0) rfl rfl rfl dX11_init_136 ?_
      obtain ⟨g153, h154⟩ := qk_el h152; clear h152
      obtain ⟨b155, e156, h157⟩ := qv_el h154; clear h154
      obtain ⟨S158, e159, h160⟩ := qv_el h157; clear h157
      refine zv_new (pc := 137) (nf := 2) (by omega) (by omega) rfl (k := (55 + 53 * n)) (j := (322 + 309 * n)) (ci := 2) g153 (by decide) e156 e159 gw_261 gw_262 gw_9 dX11_init_137 ?_
      refine ev_dup (pc := 140) (.inr rfl) dX11_init_140 ?_
      obtain ⟨x161, S162, e163, h164⟩ := qc_el h160; clear h160
      refine xv_callI (pc := 141) (k := (54 + 53 * n)) (j := (316 + 309 * n)) (st := [.ref b155, .ref l0]) (as := []) (v := none) (S' := S162) ok_X3_init (e_X3_init e163) (by omega) (by omega) (by decide) rfl (Nat.le_of_ble_eq_true rfl) rfl gw_263 dX11_init_141 ?_
      obtain ⟨g165, h166⟩ := qk_el h164; clear h164
      obtain ⟨S167, e168, h169⟩ := qv_el h166; clear h166
      refine yv_putPF (pc := 144) fn_808 rfl rfl (isb_el g165) e168 gw_290 dX11_init_144 ?_
      refine ev_aload_n (pc := 147) (i := 0) rfl rfl rfl dX11_init_147 ?_
      refine ev_bipush (pc := 148) (v := 7) (by decide) dX11_init_148 ?_
      obtain ⟨g170, h171⟩ := qk_el h169; clear h169
      obtain ⟨b172, e173, h174⟩ := qv_el h171; clear h171
      obtain ⟨S175, e176, h177⟩ := qv_el h174; clear h174
      refine zv_newa (pc := 150) (by omega) (by omega) (k := (53 + 53 * n)) (j := (309 + 309 * n)) (kd := 12) (N := 7) (atype := .long) g170 (by simp) e173 e176 gw_89 (by decide) (by decide) (by decide) dX11_init_150 ?_
      obtain ⟨S178, e179, h180⟩ := qv_el h177; clear h177
      refine yv_putPF (pc := 152) fn_809 rfl rfl (is_nK (is_sP (isb_el g165) e168) e176) e179 gw_291 dX11_init_152 ?_
      refine ev_aload_n (pc := 155) (i := 0) rfl rfl rfl dX11_init_155 ?_
      refine ev_iconst (pc := 156) (v := 0) (by decide) dX11_init_156 ?_
      obtain ⟨S181, e182, h183⟩ := qv_el h180; clear h180
      refine yv_putI (pc := 157) fn_811 ⟨rfl, rfl⟩ (is_sP (is_nK (is_sP (isb_el g165) e168) e176) e179) e182 gw_293 dX11_init_157 ?_
      refine ev_aload_n (pc := 160) (i := 0) rfl rfl rfl dX11_init_160 ?_
      refine ev_iconst (pc := 161) (v := 0) (by decide) dX11_init_161 ?_
      obtain ⟨S184, e185, h186⟩ := qv_el h183; clear h183
      refine yv_putI (pc := 162) fn_812 ⟨rfl, rfl⟩ (is_sI (is_sP (is_nK (is_sP (isb_el g165) e168) e176) e179) e182) e185 gw_294 dX11_init_162 ?_
      refine ev_aload_n (pc := 165) (i := 0) rfl rfl rfl dX11_init_165 ?_
      refine ev_iconst (pc := 166) (v := 0) (by decide) dX11_init_166 ?_
      obtain ⟨S187, e188, h189⟩ := qv_el h186; clear h186
      refine yv_putI (pc := 167) fn_813 ⟨rfl, rfl⟩ (is_sI (is_sI (is_sP (is_nK (is_sP (isb_el g165) e168) e176) e179) e182) e185) e188 gw_295 dX11_init_167 ?_
      exact ev_return (pc := 170) rfl (qRU_eq h189) dX11_init_170
    · replace h0 := qi_f h0 c46
      refine ev_aload_n (pc := 47) (i := 0) rfl rfl rfl dX11_init_47 ?_
      obtain ⟨g190, h191⟩ := qk_el h0; clear h0
      obtain ⟨b192, e193, h194⟩ := qP_el h191; clear h191
      refine xv_getP (pc := 48) fn_802 (isb_el g190) e193 gw_284 dX11_init_48 ?_
      refine ev_iload_n (pc := 51) (i := 1) rfl rfl dX11_init_51 ?_
      obtain ⟨g195, h196⟩ := qk_el h194; clear h194
      obtain ⟨b197, e198, h199⟩ := qv_el h196; clear h196
      obtain ⟨S200, e201, h202⟩ := qv_el h199; clear h199
      refine zv_new (pc := 52) (nf := 4) (by omega) (by omega) rfl (k := (202 + 53 * n)) (j := (3293 + 309 * n)) (ci := 4) g195 (by decide) e198 e201 gw_50 gw_52 gw_3 dX11_init_52 ?_
      refine ev_dup (pc := 55) (.inr rfl) dX11_init_55 ?_
      obtain ⟨x203, S204, e205, h206⟩ := qc_el h202; clear h202
      refine xv_callI (pc := 56) (k := (150 + 53 * n)) (j := (2988 + 309 * n)) (st := [.ref b197, .int l1, .ref b192]) (as := []) (v := none) (S' := S204) ok_X6_init (e_X6_init e205) (by omega) (by omega) (by decide) rfl (Nat.le_of_ble_eq_true rfl) rfl gw_53 dX11_init_56 ?_
      obtain ⟨g207, h208⟩ := qk_el h206; clear h206
      obtain ⟨g209, h210⟩ := qk_el h208; clear h208
      obtain ⟨g211, h212⟩ := qk_el h210; clear h210
      obtain ⟨S213, e214, h215⟩ := qv_el h212; clear h212
      refine yv_aast (pc := 59) (isb_el g207) (by decide) (isb_el g209) (inb_el g211) e214 dX11_init_59 ?_
      refine ev_iinc (pc := 60) (L' := [some (.ref l0), some (.int (l1 + 1))]) (i := 1) (v := (l1 + 1)) rfl rfl (by decide) rfl rfl dX11_init_60 ?_
      refine ev_goto (pc := 63) (tgt := 42) (by decide) dX11_init_63 ?_
      exact ev_mono (Nat.le_refl _) (by omega) (by omega) (ev_weak (qL_s (qL_s qL_nil)) (ih _ _ _ _ h215))
theorem e_X11_init {X : gk_X} {F : Nat} {S : gk_S} {a : Nat} {r : (Unit × gk_S)} (h0 : f_X11_init F S a = some r) : EvM X m_X11_init 3 420 9641 [.ref a] S (qRU r) := by
  unfold f_X11_init at h0
  refine ev_method (by decide +kernel) rfl rfl (Nat.le_of_ble_eq_true rfl) ?_
  show EvW X m_X11_init 3 420 9641 0 [some (.ref a), none] [] S _
  refine ev_aload_n (pc := 0) (i := 0) rfl rfl rfl dX11_init_0 ?_
  refine ev_objInit (pc := 1) gw_30 gw_31 gw_32 (by decide) (by simp) (by decide) dX11_init_1 ?_
  refine ev_aload_n (pc := 4) (i := 0) rfl rfl rfl dX11_init_4 ?_
  obtain ⟨g1, h2⟩ := qk_el h0; clear h0
  obtain ⟨b3, e4, h5⟩ := qv_el h2; clear h2
  obtain ⟨S6, e7, h8⟩ := qv_el h5; clear h5
  refine zv_new (pc := 5) (nf := 2) (by omega) (by omega) rfl (k := 419) (j := 9639) (ci := 1) g1 (by decide) e4 e7 gw_33 gw_34 gw_2 dX11_init_5 ?_
  refine ev_dup (pc := 8) (.inr rfl) dX11_init_8 ?_
  refine ev_sipush (pc := 9) (v := 2100) (by decide) dX11_init_9 ?_
  obtain ⟨x9, S10, e11, h12⟩ := qc_el h8; clear h8
  refine xv_callI (pc := 12) (k := 418) (j := 7539) (st := [.ref b3, .ref a]) (as := [.int 2100]) (v := none) (S' := S10) ok_X2_init (e_X2_init_2100 e11) (by omega) (by omega) (by decide) rfl (Nat.le_of_ble_eq_true rfl) rfl gw_35 dX11_init_12 ?_
  obtain ⟨g13, h14⟩ := qk_el h12; clear h12
  obtain ⟨S15, e16, h17⟩ := qv_el h14; clear h14
  refine yv_putPF (pc := 15) fn_800 rfl rfl (isb_el g13) e16 gw_282 dX11_init_15 ?_
  refine ev_aload_n (pc := 18) (i := 0) rfl rfl rfl dX11_init_18 ?_
  obtain ⟨g18, h19⟩ := qk_el h17; clear h17
  obtain ⟨b20, e21, h22⟩ := qv_el h19; clear h19
  obtain ⟨S23, e24, h25⟩ := qv_el h22; clear h22
  refine zv_new (pc := 19) (nf := 2) (by omega) (by omega) rfl (k := 417) (j := 7537) (ci := 1) g18 (by decide) e21 e24 gw_33 gw_34 gw_2 dX11_init_19 ?_
  refine ev_dup (pc := 22) (.inr rfl) dX11_init_22 ?_
  refine ev_sipush (pc := 23) (v := 3000) (by decide) dX11_init_23 ?_
  obtain ⟨x26, S27, e28, h29⟩ := qc_el h25; clear h25
  refine xv_callI (pc := 26) (k := 416) (j := 4537) (st := [.ref b20, .ref a]) (as := [.int 3000]) (v := none) (S' := S27) ok_X2_init (e_X2_init_3000 e28) (by omega) (by omega) (by decide) rfl (Nat.le_of_ble_eq_true rfl) rfl gw_35 dX11_init_26 ?_
  obtain ⟨g30, h31⟩ := qk_el h29; clear h29
  obtain ⟨S32, e33, h34⟩ := qv_el h31; clear h31
  refine yv_putPF (pc := 29) fn_801 rfl rfl (isb_el g30) e33 gw_283 dX11_init_29 ?_
  refine ev_aload_n (pc := 32) (i := 0) rfl rfl rfl dX11_init_32 ?_
  refine ev_iconst (pc := 33) (v := 4) (by decide) dX11_init_33 ?_
  obtain ⟨g35, h36⟩ := qk_el h34; clear h34
  obtain ⟨b37, e38, h39⟩ := qv_el h36; clear h36
  obtain ⟨S40, e41, h42⟩ := qv_el h39; clear h39
  refine zv_newq (pc := 34) (by omega) (by omega) (k := 415) (j := 4533) (kd := 16) (N := 4) g35 (by decide) e38 e41 gw_50 (by decide) (by decide) (by decide) dX11_init_34 ?_
  obtain ⟨S43, e44, h45⟩ := qv_el h42; clear h42
  refine yv_putPF (pc := 37) fn_802 rfl rfl (is_nK (is_sP (isb_el g30) e33) e41) e44 gw_284 dX11_init_37 ?_
  refine ev_iconst (pc := 40) (v := 0) (by decide) dX11_init_40 ?_
  refine ev_istore_n (pc := 41) (L' := [some (.ref a), some (.int 0)]) (i := 1) rfl (by decide) rfl rfl dX11_init_41 ?_
  exact ev_weak (qL_s (qL_s qL_nil)) (e_X11_init_42 5 _ _ _ _ h45)
theorem dX12_init_0 : decode cX12_init 0 = .ok (.aload_n 0, 1) := by decide +kernel
theorem dX12_init_1 : decode cX12_init 1 = .ok (.invokespecial 56, 3) := by decide +kernel
theorem dX12_init_4 : decode cX12_init 4 = .ok (.aload_n 0, 1) := by decide +kernel
theorem dX12_init_5 : decode cX12_init 5 = .ok (.sipush 2100, 3) := by decide +kernel
theorem dX12_init_8 : decode cX12_init 8 = .ok (.newarray .byte, 2) := by decide +kernel
theorem dX12_init_10 : decode cX12_init 10 = .ok (.putfield 14, 3) := by decide +kernel
theorem dX12_init_13 : decode cX12_init 13 = .ok (.aload_n 0, 1) := by decide +kernel
theorem dX12_init_14 : decode cX12_init 14 = .ok (.bipush 6, 2) := by decide +kernel
theorem dX12_init_16 : decode cX12_init 16 = .ok (.newarray .int, 2) := by decide +kernel
theorem dX12_init_18 : decode cX12_init 18 = .ok (.putfield 43, 3) := by decide +kernel
theorem dX12_init_21 : decode cX12_init 21 = .ok (.aload_n 0, 1) := by decide +kernel
theorem dX12_init_22 : decode cX12_init 22 = .ok (.bipush 6, 2) := by decide +kernel
theorem dX12_init_24 : decode cX12_init 24 = .ok (.newarray .int, 2) := by decide +kernel
theorem dX12_init_26 : decode cX12_init 26 = .ok (.putfield 46, 3) := by decide +kernel
theorem dX12_init_29 : decode cX12_init 29 = .ok (.aload_n 0, 1) := by decide +kernel
theorem dX12_init_30 : decode cX12_init 30 = .ok (.bipush 96, 2) := by decide +kernel
theorem dX12_init_32 : decode cX12_init 32 = .ok (.newarray .int, 2) := by decide +kernel
theorem dX12_init_34 : decode cX12_init 34 = .ok (.putfield 29, 3) := by decide +kernel
theorem dX12_init_37 : decode cX12_init 37 = .ok (.aload_n 0, 1) := by decide +kernel
theorem dX12_init_38 : decode cX12_init 38 = .ok (.bipush 96, 2) := by decide +kernel
theorem dX12_init_40 : decode cX12_init 40 = .ok (.newarray .int, 2) := by decide +kernel
theorem dX12_init_42 : decode cX12_init 42 = .ok (.putfield 33, 3) := by decide +kernel
theorem dX12_init_45 : decode cX12_init 45 = .ok (.aload_n 0, 1) := by decide +kernel
theorem dX12_init_46 : decode cX12_init 46 = .ok (.sipush 576, 3) := by decide +kernel
theorem dX12_init_49 : decode cX12_init 49 = .ok (.newarray .long, 2) := by decide +kernel
theorem dX12_init_51 : decode cX12_init 51 = .ok (.putfield 36, 3) := by decide +kernel
theorem dX12_init_54 : decode cX12_init 54 = .ok (.aload_n 0, 1) := by decide +kernel
theorem dX12_init_55 : decode cX12_init 55 = .ok (.sipush 576, 3) := by decide +kernel
theorem dX12_init_58 : decode cX12_init 58 = .ok (.newarray .long, 2) := by decide +kernel
theorem dX12_init_60 : decode cX12_init 60 = .ok (.putfield 40, 3) := by decide +kernel
theorem dX12_init_63 : decode cX12_init 63 = .ok (.aload_n 0, 1) := by decide +kernel
theorem dX12_init_64 : decode cX12_init 64 = .ok (.bipush 17, 2) := by decide +kernel
theorem dX12_init_66 : decode cX12_init 66 = .ok (.newarray .int, 2) := by decide +kernel
theorem dX12_init_68 : decode cX12_init 68 = .ok (.putfield 53, 3) := by decide +kernel
theorem dX12_init_71 : decode cX12_init 71 = .ok (.aload_n 0, 1) := by decide +kernel
theorem dX12_init_72 : decode cX12_init 72 = .ok (.bipush 18, 2) := by decide +kernel
theorem dX12_init_74 : decode cX12_init 74 = .ok (.newarray .int, 2) := by decide +kernel
theorem dX12_init_76 : decode cX12_init 76 = .ok (.putfield 62, 3) := by decide +kernel
theorem dX12_init_79 : decode cX12_init 79 = .ok (.aload_n 0, 1) := by decide +kernel
theorem dX12_init_80 : decode cX12_init 80 = .ok (.bipush 18, 2) := by decide +kernel
theorem dX12_init_82 : decode cX12_init 82 = .ok (.newarray .int, 2) := by decide +kernel
theorem dX12_init_84 : decode cX12_init 84 = .ok (.putfield 65, 3) := by decide +kernel
theorem dX12_init_87 : decode cX12_init 87 = .ok (.aload_n 0, 1) := by decide +kernel
theorem dX12_init_88 : decode cX12_init 88 = .ok (.sipush 3000, 3) := by decide +kernel
theorem dX12_init_91 : decode cX12_init 91 = .ok (.newarray .byte, 2) := by decide +kernel
theorem dX12_init_93 : decode cX12_init 93 = .ok (.putfield 68, 3) := by decide +kernel
theorem dX12_init_96 : decode cX12_init 96 = .ok (.aload_n 0, 1) := by decide +kernel
theorem dX12_init_97 : decode cX12_init 97 = .ok (.bipush 7, 2) := by decide +kernel
theorem dX12_init_99 : decode cX12_init 99 = .ok (.newarray .long, 2) := by decide +kernel
theorem dX12_init_101 : decode cX12_init 101 = .ok (.putfield 71, 3) := by decide +kernel
theorem dX12_init_104 : decode cX12_init 104 = .ok (.aload_n 0, 1) := by decide +kernel
theorem dX12_init_105 : decode cX12_init 105 = .ok (.bipush 7, 2) := by decide +kernel
theorem dX12_init_107 : decode cX12_init 107 = .ok (.newarray .long, 2) := by decide +kernel
theorem dX12_init_109 : decode cX12_init 109 = .ok (.putfield 74, 3) := by decide +kernel
theorem dX12_init_112 : decode cX12_init 112 = .ok (.aload_n 0, 1) := by decide +kernel
theorem dX12_init_113 : decode cX12_init 113 = .ok (.bipush 7, 2) := by decide +kernel
theorem dX12_init_115 : decode cX12_init 115 = .ok (.newarray .long, 2) := by decide +kernel
theorem dX12_init_117 : decode cX12_init 117 = .ok (.putfield 77, 3) := by decide +kernel
theorem dX12_init_120 : decode cX12_init 120 = .ok (.aload_n 0, 1) := by decide +kernel
theorem dX12_init_121 : decode cX12_init 121 = .ok (.sipush 16384, 3) := by decide +kernel
theorem dX12_init_124 : decode cX12_init 124 = .ok (.newarray .long, 2) := by decide +kernel
theorem dX12_init_126 : decode cX12_init 126 = .ok (.putfield 80, 3) := by decide +kernel
theorem dX12_init_129 : decode cX12_init 129 = .ok (.aload_n 0, 1) := by decide +kernel
theorem dX12_init_130 : decode cX12_init 130 = .ok (.sipush 16384, 3) := by decide +kernel
theorem dX12_init_133 : decode cX12_init 133 = .ok (.newarray .boolean, 2) := by decide +kernel
theorem dX12_init_135 : decode cX12_init 135 = .ok (.putfield 83, 3) := by decide +kernel
theorem dX12_init_138 : decode cX12_init 138 = .ok (.aload_n 0, 1) := by decide +kernel
theorem dX12_init_139 : decode cX12_init 139 = .ok (.sipush 576, 3) := by decide +kernel
theorem dX12_init_142 : decode cX12_init 142 = .ok (.newarray .int, 2) := by decide +kernel
theorem dX12_init_144 : decode cX12_init 144 = .ok (.putfield 87, 3) := by decide +kernel
theorem dX12_init_147 : decode cX12_init 147 = .ok (.aload_n 0, 1) := by decide +kernel
theorem dX12_init_148 : decode cX12_init 148 = .ok (.bipush 8, 2) := by decide +kernel
theorem dX12_init_150 : decode cX12_init 150 = .ok (.putfield 90, 3) := by decide +kernel
theorem dX12_init_153 : decode cX12_init 153 = .ok (.aload_n 0, 1) := by decide +kernel
theorem dX12_init_154 : decode cX12_init 154 = .ok (.bipush 7, 2) := by decide +kernel
theorem dX12_init_156 : decode cX12_init 156 = .ok (.newarray .int, 2) := by decide +kernel
theorem dX12_init_158 : decode cX12_init 158 = .ok (.putfield 93, 3) := by decide +kernel
theorem dX12_init_161 : decode cX12_init 161 = .ok (.aload_n 0, 1) := by decide +kernel
theorem dX12_init_162 : decode cX12_init 162 = .ok (.iconst 5, 1) := by decide +kernel
theorem dX12_init_163 : decode cX12_init 163 = .ok (.newarray .int, 2) := by decide +kernel
theorem dX12_init_165 : decode cX12_init 165 = .ok (.putfield 96, 3) := by decide +kernel
theorem dX12_init_168 : decode cX12_init 168 = .ok (.iconst 0, 1) := by decide +kernel
theorem dX12_init_169 : decode cX12_init 169 = .ok (.istore_n 1, 1) := by decide +kernel
theorem dX12_init_170 : decode cX12_init 170 = .ok (.iconst 0, 1) := by decide +kernel
theorem dX12_init_171 : decode cX12_init 171 = .ok (.istore_n 2, 1) := by decide +kernel
theorem dX12_init_172 : decode cX12_init 172 = .ok (.iload_n 2, 1) := by decide +kernel
theorem dX12_init_173 : decode cX12_init 173 = .ok (.ldc 99, 2) := by decide +kernel
theorem dX12_init_175 : decode cX12_init 175 = .ok (.invokevirtual 101, 3) := by decide +kernel
theorem dX12_init_178 : decode cX12_init 178 = .ok (.iconst 1, 1) := by decide +kernel
theorem dX12_init_179 : decode cX12_init 179 = .ok (.isub, 1) := by decide +kernel
theorem dX12_init_180 : decode cX12_init 180 = .ok (.if_icmp .ge 67, 3) := by decide +kernel
theorem dX12_init_183 : decode cX12_init 183 = .ok (.ldc 99, 2) := by decide +kernel
theorem dX12_init_185 : decode cX12_init 185 = .ok (.iload_n 2, 1) := by decide +kernel
theorem dX12_init_186 : decode cX12_init 186 = .ok (.invokevirtual 106, 3) := by decide +kernel
theorem dX12_init_189 : decode cX12_init 189 = .ok (.bipush 32, 2) := by decide +kernel
theorem dX12_init_191 : decode cX12_init 191 = .ok (.if_icmp .eq 6, 3) := by decide +kernel
theorem dX12_init_194 : decode cX12_init 194 = .ok (.goto 47, 3) := by decide +kernel
theorem dX12_init_197 : decode cX12_init 197 = .ok (.aload_n 0, 1) := by decide +kernel
theorem dX12_init_198 : decode cX12_init 198 = .ok (.getfield 62, 3) := by decide +kernel
theorem dX12_init_201 : decode cX12_init 201 = .ok (.iload_n 1, 1) := by decide +kernel
theorem dX12_init_202 : decode cX12_init 202 = .ok (.iload_n 2, 1) := by decide +kernel
theorem dX12_init_203 : decode cX12_init 203 = .ok (.iconst 1, 1) := by decide +kernel
theorem dX12_init_204 : decode cX12_init 204 = .ok (.iadd, 1) := by decide +kernel
theorem dX12_init_205 : decode cX12_init 205 = .ok (.iastore, 1) := by decide +kernel
theorem dX12_init_206 : decode cX12_init 206 = .ok (.iload_n 2, 1) := by decide +kernel
theorem dX12_init_207 : decode cX12_init 207 = .ok (.iconst 1, 1) := by decide +kernel
theorem dX12_init_208 : decode cX12_init 208 = .ok (.iadd, 1) := by decide +kernel
theorem dX12_init_209 : decode cX12_init 209 = .ok (.istore_n 3, 1) := by decide +kernel
theorem dX12_init_210 : decode cX12_init 210 = .ok (.ldc 99, 2) := by decide +kernel
theorem dX12_init_212 : decode cX12_init 212 = .ok (.iload_n 3, 1) := by decide +kernel
theorem dX12_init_213 : decode cX12_init 213 = .ok (.invokevirtual 106, 3) := by decide +kernel
theorem dX12_init_216 : decode cX12_init 216 = .ok (.bipush 32, 2) := by decide +kernel
theorem dX12_init_218 : decode cX12_init 218 = .ok (.if_icmp .eq 9, 3) := by decide +kernel
theorem dX12_init_221 : decode cX12_init 221 = .ok (.iinc 3 1, 3) := by decide +kernel
theorem dX12_init_224 : decode cX12_init 224 = .ok (.goto (-14), 3) := by decide +kernel
theorem dX12_init_227 : decode cX12_init 227 = .ok (.aload_n 0, 1) := by decide +kernel
theorem dX12_init_228 : decode cX12_init 228 = .ok (.getfield 65, 3) := by decide +kernel
theorem dX12_init_231 : decode cX12_init 231 = .ok (.iload_n 1, 1) := by decide +kernel
theorem dX12_init_232 : decode cX12_init 232 = .ok (.iload_n 3, 1) := by decide +kernel
theorem dX12_init_233 : decode cX12_init 233 = .ok (.iload_n 2, 1) := by decide +kernel
theorem dX12_init_234 : decode cX12_init 234 = .ok (.isub, 1) := by decide +kernel
theorem dX12_init_235 : decode cX12_init 235 = .ok (.iconst 1, 1) := by decide +kernel
theorem dX12_init_236 : decode cX12_init 236 = .ok (.isub, 1) := by decide +kernel
theorem dX12_init_237 : decode cX12_init 237 = .ok (.iastore, 1) := by decide +kernel
theorem dX12_init_238 : decode cX12_init 238 = .ok (.iinc 1 1, 3) := by decide +kernel
theorem dX12_init_241 : decode cX12_init 241 = .ok (.iinc 2 1, 3) := by decide +kernel
theorem dX12_init_244 : decode cX12_init 244 = .ok (.goto (-72), 3) := by decide +kernel
theorem dX12_init_247 : decode cX12_init 247 = .ok (.return_, 1) := by decide +kernel
theorem e_X12_init_210 {X : gk_X} {F : Nat} {k172 : Nat → Int32 → Int32 → gk_S → Option (Unit × gk_S)} (hk172 : ∀ (l0 : Nat) (l1 : Int32) (l2 : Int32) (S : gk_S) (r : (Unit × gk_S)), k172 l0 l1 l2 S = some r → EvW X m_X12_init 5 0 0 172 [some (.ref l0), some (.int l1), some (.int l2), none] [] S (qRU r)) : ∀ (n : Nat) (l0 : Nat) (l1 : Int32) (l2 : Int32) (l3 : Int32) (S : gk_S) (r : (Unit × gk_S)), f_X12_init_210 F k172 n l0 l1 l2 l3 S = some r → EvW X m_X12_init 5 0 0 210 [some (.ref l0), some (.int l1), some (.int l2), some (.int l3)] [] S (qRU r) := by
  intro n
  induction n with
  | zero => intro l0 l1 l2 l3 S r h0; rw [f_X12_init_210] at h0; cases h0
  | succ n ih =>
    intro l0 l1 l2 l3 S r h0; rw [f_X12_init_210] at h0
    refine ev_ldcS (pc := 210) (i := 33) (by decide) rfl rfl dX12_init_210 ?_
    refine ev_iload_n (pc := 212) (i := 3) rfl rfl dX12_init_212 ?_
    obtain ⟨x239, S240, e241, h242⟩ := qc_el h0; clear h0
    refine xv_callT (pc := 213) (st := []) (as := [.int l3]) (v := (some (.int x239))) (S' := S240) (i9 := 33) ok_J0_charAt_5068e (e_J0_charAt_5068e e241) (by decide) (by decide) rfl (Nat.le_of_ble_eq_true rfl) rfl gw_1139 dX12_init_213 ?_
    refine ev_bipush (pc := 216) (v := 32) (by decide) dX12_init_216 ?_
    refine ev_ic_eq (pc := 218) (tgt := 227) (by decide) dX12_init_218 (fun c243 => ?_) (fun c243 => ?_)
    · replace h242 := qi_t h242 c243
      refine ev_aload_n (pc := 227) (i := 0) rfl rfl rfl dX12_init_227 ?_
      obtain ⟨g245, h246⟩ := qk_el h242; clear h242
      obtain ⟨b247, e248, h249⟩ := qP_el h246; clear h246
      refine xv_getP (pc := 228) fn_913 (isb_el g245) e248 gw_1153 dX12_init_228 ?_
      refine ev_iload_n (pc := 231) (i := 1) rfl rfl dX12_init_231 ?_
      refine ev_iload_n (pc := 232) (i := 3) rfl rfl dX12_init_232 ?_
      refine ev_iload_n (pc := 233) (i := 2) rfl rfl dX12_init_233 ?_
      refine ev_isub (pc := 234)  dX12_init_234 ?_
      refine ev_iconst (pc := 235) (v := 1) (by decide) dX12_init_235 ?_
      refine ev_isub (pc := 236)  dX12_init_236 ?_
      obtain ⟨g250, h251⟩ := qk_el h249; clear h249
      obtain ⟨g252, h253⟩ := qk_el h251; clear h251
      obtain ⟨S254, e255, h256⟩ := qv_el h253; clear h253
      refine yv_iast (pc := 237) (isb_el g250) (inb_el g252) e255 dX12_init_237 ?_
      refine ev_iinc (pc := 238) (L' := [some (.ref l0), some (.int (l1 + 1)), some (.int l2), some (.int l3)]) (i := 1) (v := (l1 + 1)) rfl rfl (by decide) rfl rfl dX12_init_238 ?_
      refine ev_iinc (pc := 241) (L' := [some (.ref l0), some (.int (l1 + 1)), some (.int (l2 + 1)), some (.int l3)]) (i := 2) (v := (l2 + 1)) rfl rfl (by decide) rfl rfl dX12_init_241 ?_
      refine ev_goto (pc := 244) (tgt := 172) (by decide) dX12_init_244 ?_
      exact ev_weak (qL_s (qL_s (qL_s (qL_n qL_nil)))) (hk172 _ _ _ _ _ h256)
    · replace h242 := qi_f h242 c243
      refine ev_iinc (pc := 221) (L' := [some (.ref l0), some (.int l1), some (.int l2), some (.int (l3 + 1))]) (i := 3) (v := (l3 + 1)) rfl rfl (by decide) rfl rfl dX12_init_221 ?_
      refine ev_goto (pc := 224) (tgt := 210) (by decide) dX12_init_224 ?_
      exact (ev_weak (qL_s (qL_s (qL_s (qL_s qL_nil)))) (ih _ _ _ _ _ _ h242))
theorem e_X12_init_172 {X : gk_X} {F : Nat} : ∀ (n : Nat) (l0 : Nat) (l1 : Int32) (l2 : Int32) (S : gk_S) (r : (Unit × gk_S)), f_X12_init_172 F n l0 l1 l2 S = some r → EvW X m_X12_init 5 0 0 172 [some (.ref l0), some (.int l1), some (.int l2), none] [] S (qRU r) := by
  intro n
  induction n with
  | zero => intro l0 l1 l2 S r h0; rw [f_X12_init_172] at h0; cases h0
  | succ n ih =>
    intro l0 l1 l2 S r h0; rw [f_X12_init_172] at h0
    refine ev_iload_n (pc := 172) (i := 2) rfl rfl dX12_init_172 ?_
    refine ev_ldcS (pc := 173) (i := 33) (by decide) rfl rfl dX12_init_173 ?_
    obtain ⟨x215, S216, e217, h218⟩ := qc_el h0; clear h0
    refine xv_callT (pc := 175) (st := [.int l2]) (as := []) (v := (some (.int x215))) (S' := S216) (i9 := 33) ok_J0_length_8abf5 (e_J0_length_8abf5 e217) (by decide) (by decide) rfl (Nat.le_of_ble_eq_true rfl) rfl gw_1138 dX12_init_175 ?_
    refine ev_iconst (pc := 178) (v := 1) (by decide) dX12_init_178 ?_
    refine ev_isub (pc := 179)  dX12_init_179 ?_
    refine ev_ic_ge (pc := 180) (tgt := 247) (by decide) dX12_init_180 (fun c219 => ?_) (fun c219 => ?_)
    · replace h218 := qi_t h218 c219
      exact ev_return (pc := 247) rfl (qRU_eq h218) dX12_init_247
    · replace h218 := qi_f h218 c219
      refine ev_ldcS (pc := 183) (i := 33) (by decide) rfl rfl dX12_init_183 ?_
      refine ev_iload_n (pc := 185) (i := 2) rfl rfl dX12_init_185 ?_
      obtain ⟨x221, S222, e223, h224⟩ := qc_el h218; clear h218
      refine xv_callT (pc := 186) (st := []) (as := [.int l2]) (v := (some (.int x221))) (S' := S222) (i9 := 33) ok_J0_charAt_5068e (e_J0_charAt_5068e e223) (by decide) (by decide) rfl (Nat.le_of_ble_eq_true rfl) rfl gw_1139 dX12_init_186 ?_
      refine ev_bipush (pc := 189) (v := 32) (by decide) dX12_init_189 ?_
      refine ev_ic_eq (pc := 191) (tgt := 197) (by decide) dX12_init_191 (fun c225 => ?_) (fun c225 => ?_)
      · replace h224 := qi_t h224 c225
        refine ev_aload_n (pc := 197) (i := 0) rfl rfl rfl dX12_init_197 ?_
        obtain ⟨g227, h228⟩ := qk_el h224; clear h224
        obtain ⟨b229, e230, h231⟩ := qP_el h228; clear h228
        refine xv_getP (pc := 198) fn_912 (isb_el g227) e230 gw_1152 dX12_init_198 ?_
        refine ev_iload_n (pc := 201) (i := 1) rfl rfl dX12_init_201 ?_
        refine ev_iload_n (pc := 202) (i := 2) rfl rfl dX12_init_202 ?_
        refine ev_iconst (pc := 203) (v := 1) (by decide) dX12_init_203 ?_
        refine ev_iadd (pc := 204)  dX12_init_204 ?_
        obtain ⟨g232, h233⟩ := qk_el h231; clear h231
        obtain ⟨g234, h235⟩ := qk_el h233; clear h233
        obtain ⟨S236, e237, h238⟩ := qv_el h235; clear h235
        refine yv_iast (pc := 205) (isb_el g232) (inb_el g234) e237 dX12_init_205 ?_
        refine ev_iload_n (pc := 206) (i := 2) rfl rfl dX12_init_206 ?_
        refine ev_iconst (pc := 207) (v := 1) (by decide) dX12_init_207 ?_
        refine ev_iadd (pc := 208)  dX12_init_208 ?_
        refine ev_istore_n (pc := 209) (L' := [some (.ref l0), some (.int l1), some (.int l2), some (.int (l2 + 1))]) (i := 3) rfl (by decide) rfl rfl dX12_init_209 ?_
        exact ev_weak (qL_s (qL_s (qL_s (qL_s qL_nil)))) (e_X12_init_210 ih F _ _ _ _ _ _ h238)
      · replace h224 := qi_f h224 c225
        refine ev_goto (pc := 194) (tgt := 241) (by decide) dX12_init_194 ?_
        refine ev_iinc (pc := 241) (L' := [some (.ref l0), some (.int l1), some (.int (l2 + 1)), none]) (i := 2) (v := (l2 + 1)) rfl rfl (by decide) rfl rfl dX12_init_241 ?_
        refine ev_goto (pc := 244) (tgt := 172) (by decide) dX12_init_244 ?_
        exact (ev_weak (qL_s (qL_s (qL_s (qL_n qL_nil)))) (ih _ _ _ _ _ h224))
theorem e_X12_init {X : gk_X} {F : Nat} {S : gk_S} {a : Nat} {r : (Unit × gk_S)} (h0 : f_X12_init F S a = some r) : EvM X m_X12_init 5 19 39886 [.ref a] S (qRU r) := by
  unfold f_X12_init at h0
  refine ev_method (by decide +kernel) rfl rfl (Nat.le_of_ble_eq_true rfl) ?_
  show EvW X m_X12_init 5 19 39886 0 [some (.ref a), none, none, none] [] S _
  refine ev_aload_n (pc := 0) (i := 0) rfl rfl rfl dX12_init_0 ?_
  refine ev_objInit (pc := 1) gw_1136 gw_31 gw_32 (by decide) (by simp) (by decide) dX12_init_1 ?_
  refine ev_aload_n (pc := 4) (i := 0) rfl rfl rfl dX12_init_4 ?_
  refine ev_sipush (pc := 5) (v := 2100) (by decide) dX12_init_5 ?_
  obtain ⟨g1, h2⟩ := qk_el h0; clear h0
  obtain ⟨b3, e4, h5⟩ := qv_el h2; clear h2
  obtain ⟨S6, e7, h8⟩ := qv_el h5; clear h5
  refine zv_newa (pc := 8) (by omega) (by omega) (k := 18) (j := 37786) (kd := 10) (N := 2100) (atype := .byte) g1 (by simp) e4 e7 gw_49 (by decide) (by decide) (by decide) dX12_init_8 ?_
  obtain ⟨g9, h10⟩ := qk_el h8; clear h8
  obtain ⟨S11, e12, h13⟩ := qv_el h10; clear h10
  refine yv_putPF (pc := 10) fn_901 rfl rfl (isb_el g9) e12 gw_1141 dX12_init_10 ?_
  refine ev_aload_n (pc := 13) (i := 0) rfl rfl rfl dX12_init_13 ?_
  refine ev_bipush (pc := 14) (v := 6) (by decide) dX12_init_14 ?_
  obtain ⟨g14, h15⟩ := qk_el h13; clear h13
  obtain ⟨b16, e17, h18⟩ := qv_el h15; clear h15
  obtain ⟨S19, e20, h21⟩ := qv_el h18; clear h18
  refine zv_newa (pc := 16) (by omega) (by omega) (k := 17) (j := 37780) (kd := 11) (N := 6) (atype := .int) g14 (by simp) e17 e20 gw_193 (by decide) (by decide) (by decide) dX12_init_16 ?_
  obtain ⟨S22, e23, h24⟩ := qv_el h21; clear h21
  refine yv_putPF (pc := 18) fn_905 rfl rfl (is_nK (is_sP (isb_el g9) e12) e20) e23 gw_1145 dX12_init_18 ?_
  refine ev_aload_n (pc := 21) (i := 0) rfl rfl rfl dX12_init_21 ?_
  refine ev_bipush (pc := 22) (v := 6) (by decide) dX12_init_22 ?_
  obtain ⟨g25, h26⟩ := qk_el h24; clear h24
  obtain ⟨b27, e28, h29⟩ := qv_el h26; clear h26
  obtain ⟨S30, e31, h32⟩ := qv_el h29; clear h29
  refine zv_newa (pc := 24) (by omega) (by omega) (k := 16) (j := 37774) (kd := 11) (N := 6) (atype := .int) g25 (by simp) e28 e31 gw_193 (by decide) (by decide) (by decide) dX12_init_24 ?_
  obtain ⟨S33, e34, h35⟩ := qv_el h32; clear h32
  refine yv_putPF (pc := 26) fn_906 rfl rfl (is_nK (is_sP (is_nK (is_sP (isb_el g9) e12) e20) e23) e31) e34 gw_1146 dX12_init_26 ?_
  refine ev_aload_n (pc := 29) (i := 0) rfl rfl rfl dX12_init_29 ?_
  refine ev_bipush (pc := 30) (v := 96) (by decide) dX12_init_30 ?_
  obtain ⟨g36, h37⟩ := qk_el h35; clear h35
  obtain ⟨b38, e39, h40⟩ := qv_el h37; clear h37
  obtain ⟨S41, e42, h43⟩ := qv_el h40; clear h40
  refine zv_newa (pc := 32) (by omega) (by omega) (k := 15) (j := 37678) (kd := 11) (N := 96) (atype := .int) g36 (by simp) e39 e42 gw_193 (by decide) (by decide) (by decide) dX12_init_32 ?_
  obtain ⟨S44, e45, h46⟩ := qv_el h43; clear h43
  refine yv_putPF (pc := 34) fn_907 rfl rfl (is_nK (is_sP (is_nK (is_sP (is_nK (is_sP (isb_el g9) e12) e20) e23) e31) e34) e42) e45 gw_1147 dX12_init_34 ?_
  refine ev_aload_n (pc := 37) (i := 0) rfl rfl rfl dX12_init_37 ?_
  refine ev_bipush (pc := 38) (v := 96) (by decide) dX12_init_38 ?_
  obtain ⟨g47, h48⟩ := qk_el h46; clear h46
  obtain ⟨b49, e50, h51⟩ := qv_el h48; clear h48
  obtain ⟨S52, e53, h54⟩ := qv_el h51; clear h51
  refine zv_newa (pc := 40) (by omega) (by omega) (k := 14) (j := 37582) (kd := 11) (N := 96) (atype := .int) g47 (by simp) e50 e53 gw_193 (by decide) (by decide) (by decide) dX12_init_40 ?_
  obtain ⟨S55, e56, h57⟩ := qv_el h54; clear h54
  refine yv_putPF (pc := 42) fn_908 rfl rfl (is_nK (is_sP (is_nK (is_sP (is_nK (is_sP (is_nK (is_sP (isb_el g9) e12) e20) e23) e31) e34) e42) e45) e53) e56 gw_1148 dX12_init_42 ?_
  refine ev_aload_n (pc := 45) (i := 0) rfl rfl rfl dX12_init_45 ?_
  refine ev_sipush (pc := 46) (v := 576) (by decide) dX12_init_46 ?_
  obtain ⟨g58, h59⟩ := qk_el h57; clear h57
  obtain ⟨b60, e61, h62⟩ := qv_el h59; clear h59
  obtain ⟨S63, e64, h65⟩ := qv_el h62; clear h62
  refine zv_newa (pc := 49) (by omega) (by omega) (k := 13) (j := 37006) (kd := 12) (N := 576) (atype := .long) g58 (by simp) e61 e64 gw_89 (by decide) (by decide) (by decide) dX12_init_49 ?_
  obtain ⟨S66, e67, h68⟩ := qv_el h65; clear h65
  refine yv_putPF (pc := 51) fn_909 rfl rfl (is_nK (is_sP (is_nK (is_sP (is_nK (is_sP (is_nK (is_sP (is_nK (is_sP (isb_el g9) e12) e20) e23) e31) e34) e42) e45) e53) e56) e64) e67 gw_1149 dX12_init_51 ?_
  refine ev_aload_n (pc := 54) (i := 0) rfl rfl rfl dX12_init_54 ?_
  refine ev_sipush (pc := 55) (v := 576) (by decide) dX12_init_55 ?_
  obtain ⟨g69, h70⟩ := qk_el h68; clear h68
  obtain ⟨b71, e72, h73⟩ := qv_el h70; clear h70
  obtain ⟨S74, e75, h76⟩ := qv_el h73; clear h73
  refine zv_newa (pc := 58) (by omega) (by omega) (k := 12) (j := 36430) (kd := 12) (N := 576) (atype := .long) g69 (by simp) e72 e75 gw_89 (by decide) (by decide) (by decide) dX12_init_58 ?_
  obtain ⟨S77, e78, h79⟩ := qv_el h76; clear h76
  refine yv_putPF (pc := 60) fn_910 rfl rfl (is_nK (is_sP (is_nK (is_sP (is_nK (is_sP (is_nK (is_sP (is_nK (is_sP (is_nK (is_sP (isb_el g9) e12) e20) e23) e31) e34) e42) e45) e53) e56) e64) e67) e75) e78 gw_1150 dX12_init_60 ?_
  refine ev_aload_n (pc := 63) (i := 0) rfl rfl rfl dX12_init_63 ?_
  refine ev_bipush (pc := 64) (v := 17) (by decide) dX12_init_64 ?_
  obtain ⟨g80, h81⟩ := qk_el h79; clear h79
  obtain ⟨b82, e83, h84⟩ := qv_el h81; clear h81
  obtain ⟨S85, e86, h87⟩ := qv_el h84; clear h84
  refine zv_newa (pc := 66) (by omega) (by omega) (k := 11) (j := 36413) (kd := 11) (N := 17) (atype := .int) g80 (by simp) e83 e86 gw_193 (by decide) (by decide) (by decide) dX12_init_66 ?_
  obtain ⟨S88, e89, h90⟩ := qv_el h87; clear h87
  refine yv_putPF (pc := 68) fn_911 rfl rfl (is_nK (is_sP (is_nK (is_sP (is_nK (is_sP (is_nK (is_sP (is_nK (is_sP (is_nK (is_sP (is_nK (is_sP (isb_el g9) e12) e20) e23) e31) e34) e42) e45) e53) e56) e64) e67) e75) e78) e86) e89 gw_1151 dX12_init_68 ?_
  refine ev_aload_n (pc := 71) (i := 0) rfl rfl rfl dX12_init_71 ?_
  refine ev_bipush (pc := 72) (v := 18) (by decide) dX12_init_72 ?_
  obtain ⟨g91, h92⟩ := qk_el h90; clear h90
  obtain ⟨b93, e94, h95⟩ := qv_el h92; clear h92
  obtain ⟨S96, e97, h98⟩ := qv_el h95; clear h95
  refine zv_newa (pc := 74) (by omega) (by omega) (k := 10) (j := 36395) (kd := 11) (N := 18) (atype := .int) g91 (by simp) e94 e97 gw_193 (by decide) (by decide) (by decide) dX12_init_74 ?_
  obtain ⟨S99, e100, h101⟩ := qv_el h98; clear h98
  refine yv_putPF (pc := 76) fn_912 rfl rfl (is_nK (is_sP (is_nK (is_sP (is_nK (is_sP (is_nK (is_sP (is_nK (is_sP (is_nK (is_sP (is_nK (is_sP (is_nK (is_sP (isb_el g9) e12) e20) e23) e31) e34) e42) e45) e53) e56) e64) e67) e75) e78) e86) e89) e97) e100 gw_1152 dX12_init_76 ?_
  refine ev_aload_n (pc := 79) (i := 0) rfl rfl rfl dX12_init_79 ?_
  refine ev_bipush (pc := 80) (v := 18) (by decide) dX12_init_80 ?_
  obtain ⟨g102, h103⟩ := qk_el h101; clear h101
  obtain ⟨b104, e105, h106⟩ := qv_el h103; clear h103
  obtain ⟨S107, e108, h109⟩ := qv_el h106; clear h106
  refine zv_newa (pc := 82) (by omega) (by omega) (k := 9) (j := 36377) (kd := 11) (N := 18) (atype := .int) g102 (by simp) e105 e108 gw_193 (by decide) (by decide) (by decide) dX12_init_82 ?_
  obtain ⟨S110, e111, h112⟩ := qv_el h109; clear h109
  refine yv_putPF (pc := 84) fn_913 rfl rfl (is_nK (is_sP (is_nK (is_sP (is_nK (is_sP (is_nK (is_sP (is_nK (is_sP (is_nK (is_sP (is_nK (is_sP (is_nK (is_sP (is_nK (is_sP (isb_el g9) e12) e20) e23) e31) e34) e42) e45) e53) e56) e64) e67) e75) e78) e86) e89) e97) e100) e108) e111 gw_1153 dX12_init_84 ?_
  refine ev_aload_n (pc := 87) (i := 0) rfl rfl rfl dX12_init_87 ?_
  refine ev_sipush (pc := 88) (v := 3000) (by decide) dX12_init_88 ?_
  obtain ⟨g113, h114⟩ := qk_el h112; clear h112
  obtain ⟨b115, e116, h117⟩ := qv_el h114; clear h114
  obtain ⟨S118, e119, h120⟩ := qv_el h117; clear h117
  refine zv_newa (pc := 91) (by omega) (by omega) (k := 8) (j := 33377) (kd := 10) (N := 3000) (atype := .byte) g113 (by simp) e116 e119 gw_49 (by decide) (by decide) (by decide) dX12_init_91 ?_
  obtain ⟨S121, e122, h123⟩ := qv_el h120; clear h120
  refine yv_putPF (pc := 93) fn_920 rfl rfl (is_nK (is_sP (is_nK (is_sP (is_nK (is_sP (is_nK (is_sP (is_nK (is_sP (is_nK (is_sP (is_nK (is_sP (is_nK (is_sP (is_nK (is_sP (is_nK (is_sP (isb_el g9) e12) e20) e23) e31) e34) e42) e45) e53) e56) e64) e67) e75) e78) e86) e89) e97) e100) e108) e111) e119) e122 gw_1160 dX12_init_93 ?_
  refine ev_aload_n (pc := 96) (i := 0) rfl rfl rfl dX12_init_96 ?_
  refine ev_bipush (pc := 97) (v := 7) (by decide) dX12_init_97 ?_
  obtain ⟨g124, h125⟩ := qk_el h123; clear h123
  obtain ⟨b126, e127, h128⟩ := qv_el h125; clear h125
  obtain ⟨S129, e130, h131⟩ := qv_el h128; clear h128
  refine zv_newa (pc := 99) (by omega) (by omega) (k := 7) (j := 33370) (kd := 12) (N := 7) (atype := .long) g124 (by simp) e127 e130 gw_89 (by decide) (by decide) (by decide) dX12_init_99 ?_
  obtain ⟨S132, e133, h134⟩ := qv_el h131; clear h131
  refine yv_putPF (pc := 101) fn_922 rfl rfl (is_nK (is_sP (is_nK (is_sP (is_nK (is_sP (is_nK (is_sP (is_nK (is_sP (is_nK (is_sP (is_nK (is_sP (is_nK (is_sP (is_nK (is_sP (is_nK (is_sP (is_nK (is_sP (isb_el g9) e12) e20) e23) e31) e34) e42) e45) e53) e56) e64) e67) e75) e78) e86) e89) e97) e100) e108) e111) e119) e122) e130) e133 gw_1162 dX12_init_101 ?_
  refine ev_aload_n (pc := 104) (i := 0) rfl rfl rfl dX12_init_104 ?_
  refine ev_bipush (pc := 105) (v := 7) (by decide) dX12_init_105 ?_
  obtain ⟨g135, h136⟩ := qk_el h134; clear h134
  obtain ⟨b137, e138, h139⟩ := qv_el h136; clear h136
  obtain ⟨S140, e141, h142⟩ := qv_el h139; clear h139
  refine zv_newa (pc := 107) (by omega) (by omega) (k := 6) (j := 33363) (kd := 12) (N := 7) (atype := .long) g135 (by simp) e138 e141 gw_89 (by decide) (by decide) (by decide) dX12_init_107 ?_
  obtain ⟨S143, e144, h145⟩ := qv_el h142; clear h142
  refine yv_putPF (pc := 109) fn_923 rfl rfl (is_nK (is_sP (is_nK (is_sP (is_nK (is_sP (is_nK (is_sP (is_nK (is_sP (is_nK (is_sP (is_nK (is_sP (is_nK (is_sP (is_nK (is_sP (is_nK (is_sP (is_nK (is_sP (is_nK (is_sP (isb_el g9) e12) e20) e23) e31) e34) e42) e45) e53) e56) e64) e67) e75) e78) e86) e89) e97) e100) e108) e111) e119) e122) e130) e133) e141) e144 gw_1163 dX12_init_109 ?_
  refine ev_aload_n (pc := 112) (i := 0) rfl rfl rfl dX12_init_112 ?_
  refine ev_bipush (pc := 113) (v := 7) (by decide) dX12_init_113 ?_
  obtain ⟨g146, h147⟩ := qk_el h145; clear h145
  obtain ⟨b148, e149, h150⟩ := qv_el h147; clear h147
  obtain ⟨S151, e152, h153⟩ := qv_el h150; clear h150
  refine zv_newa (pc := 115) (by omega) (by omega) (k := 5) (j := 33356) (kd := 12) (N := 7) (atype := .long) g146 (by simp) e149 e152 gw_89 (by decide) (by decide) (by decide) dX12_init_115 ?_
  obtain ⟨S154, e155, h156⟩ := qv_el h153; clear h153
  refine yv_putPF (pc := 117) fn_924 rfl rfl (is_nK (is_sP (is_nK (is_sP (is_nK (is_sP (is_nK (is_sP (is_nK (is_sP (is_nK (is_sP (is_nK (is_sP (is_nK (is_sP (is_nK (is_sP (is_nK (is_sP (is_nK (is_sP (is_nK (is_sP (is_nK (is_sP (isb_el g9) e12) e20) e23) e31) e34) e42) e45) e53) e56) e64) e67) e75) e78) e86) e89) e97) e100) e108) e111) e119) e122) e130) e133) e141) e144) e152) e155 gw_1164 dX12_init_117 ?_
  refine ev_aload_n (pc := 120) (i := 0) rfl rfl rfl dX12_init_120 ?_
  refine ev_sipush (pc := 121) (v := 16384) (by decide) dX12_init_121 ?_
  obtain ⟨g157, h158⟩ := qk_el h156; clear h156
  obtain ⟨b159, e160, h161⟩ := qv_el h158; clear h158
  obtain ⟨S162, e163, h164⟩ := qv_el h161; clear h161
  refine zv_newa (pc := 124) (by omega) (by omega) (k := 4) (j := 16972) (kd := 12) (N := 16384) (atype := .long) g157 (by simp) e160 e163 gw_89 (by decide) (by decide) (by decide) dX12_init_124 ?_
  obtain ⟨S165, e166, h167⟩ := qv_el h164; clear h164
  refine yv_putPF (pc := 126) fn_928 rfl rfl (is_nK (is_sP (is_nK (is_sP (is_nK (is_sP (is_nK (is_sP (is_nK (is_sP (is_nK (is_sP (is_nK (is_sP (is_nK (is_sP (is_nK (is_sP (is_nK (is_sP (is_nK (is_sP (is_nK (is_sP (is_nK (is_sP (is_nK (is_sP (isb_el g9) e12) e20) e23) e31) e34) e42) e45) e53) e56) e64) e67) e75) e78) e86) e89) e97) e100) e108) e111) e119) e122) e130) e133) e141) e144) e152) e155) e163) e166 gw_1168 dX12_init_126 ?_
  refine ev_aload_n (pc := 129) (i := 0) rfl rfl rfl dX12_init_129 ?_
  refine ev_sipush (pc := 130) (v := 16384) (by decide) dX12_init_130 ?_
  obtain ⟨g168, h169⟩ := qk_el h167; clear h167
  obtain ⟨b170, e171, h172⟩ := qv_el h169; clear h169
  obtain ⟨S173, e174, h175⟩ := qv_el h172; clear h172
  refine zv_newa (pc := 133) (by omega) (by omega) (k := 3) (j := 588) (kd := 13) (N := 16384) (atype := .boolean) g168 (by simp) e171 e174 gw_1267 (by decide) (by decide) (by decide) dX12_init_133 ?_
  obtain ⟨S176, e177, h178⟩ := qv_el h175; clear h175
  refine yv_putPF (pc := 135) fn_929 rfl rfl (is_nK (is_sP (is_nK (is_sP (is_nK (is_sP (is_nK (is_sP (is_nK (is_sP (is_nK (is_sP (is_nK (is_sP (is_nK (is_sP (is_nK (is_sP (is_nK (is_sP (is_nK (is_sP (is_nK (is_sP (is_nK (is_sP (is_nK (is_sP (is_nK (is_sP (isb_el g9) e12) e20) e23) e31) e34) e42) e45) e53) e56) e64) e67) e75) e78) e86) e89) e97) e100) e108) e111) e119) e122) e130) e133) e141) e144) e152) e155) e163) e166) e174) e177 gw_1169 dX12_init_135 ?_
  refine ev_aload_n (pc := 138) (i := 0) rfl rfl rfl dX12_init_138 ?_
  refine ev_sipush (pc := 139) (v := 576) (by decide) dX12_init_139 ?_
  obtain ⟨g179, h180⟩ := qk_el h178; clear h178
  obtain ⟨b181, e182, h183⟩ := qv_el h180; clear h180
  obtain ⟨S184, e185, h186⟩ := qv_el h183; clear h183
  refine zv_newa (pc := 142) (by omega) (by omega) (k := 2) (j := 12) (kd := 11) (N := 576) (atype := .int) g179 (by simp) e182 e185 gw_193 (by decide) (by decide) (by decide) dX12_init_142 ?_
  obtain ⟨S187, e188, h189⟩ := qv_el h186; clear h186
  refine yv_putPF (pc := 144) fn_931 rfl rfl (is_nK (is_sP (is_nK (is_sP (is_nK (is_sP (is_nK (is_sP (is_nK (is_sP (is_nK (is_sP (is_nK (is_sP (is_nK (is_sP (is_nK (is_sP (is_nK (is_sP (is_nK (is_sP (is_nK (is_sP (is_nK (is_sP (is_nK (is_sP (is_nK (is_sP (is_nK (is_sP (isb_el g9) e12) e20) e23) e31) e34) e42) e45) e53) e56) e64) e67) e75) e78) e86) e89) e97) e100) e108) e111) e119) e122) e130) e133) e141) e144) e152) e155) e163) e166) e174) e177) e185) e188 gw_1171 dX12_init_144 ?_
  refine ev_aload_n (pc := 147) (i := 0) rfl rfl rfl dX12_init_147 ?_
  refine ev_bipush (pc := 148) (v := 8) (by decide) dX12_init_148 ?_
  obtain ⟨S190, e191, h192⟩ := qv_el h189; clear h189
  refine yv_putI (pc := 150) fn_933 ⟨rfl, rfl⟩ (is_sP (is_nK (is_sP (is_nK (is_sP (is_nK (is_sP (is_nK (is_sP (is_nK (is_sP (is_nK (is_sP (is_nK (is_sP (is_nK (is_sP (is_nK (is_sP (is_nK (is_sP (is_nK (is_sP (is_nK (is_sP (is_nK (is_sP (is_nK (is_sP (is_nK (is_sP (is_nK (is_sP (isb_el g9) e12) e20) e23) e31) e34) e42) e45) e53) e56) e64) e67) e75) e78) e86) e89) e97) e100) e108) e111) e119) e122) e130) e133) e141) e144) e152) e155) e163) e166) e174) e177) e185) e188) e191 gw_1173 dX12_init_150 ?_
  refine ev_aload_n (pc := 153) (i := 0) rfl rfl rfl dX12_init_153 ?_
  refine ev_bipush (pc := 154) (v := 7) (by decide) dX12_init_154 ?_
  obtain ⟨g193, h194⟩ := qk_el h192; clear h192
  obtain ⟨b195, e196, h197⟩ := qv_el h194; clear h194
  obtain ⟨S198, e199, h200⟩ := qv_el h197; clear h197
  refine zv_newa (pc := 156) (by omega) (by omega) (k := 1) (j := 5) (kd := 11) (N := 7) (atype := .int) g193 (by simp) e196 e199 gw_193 (by decide) (by decide) (by decide) dX12_init_156 ?_
  obtain ⟨S201, e202, h203⟩ := qv_el h200; clear h200
  refine yv_putPF (pc := 158) fn_939 rfl rfl (is_nK (is_sI (is_sP (is_nK (is_sP (is_nK (is_sP (is_nK (is_sP (is_nK (is_sP (is_nK (is_sP (is_nK (is_sP (is_nK (is_sP (is_nK (is_sP (is_nK (is_sP (is_nK (is_sP (is_nK (is_sP (is_nK (is_sP (is_nK (is_sP (is_nK (is_sP (is_nK (is_sP (is_nK (is_sP (isb_el g9) e12) e20) e23) e31) e34) e42) e45) e53) e56) e64) e67) e75) e78) e86) e89) e97) e100) e108) e111) e119) e122) e130) e133) e141) e144) e152) e155) e163) e166) e174) e177) e185) e188) e191) e199) e202 gw_1179 dX12_init_158 ?_
  refine ev_aload_n (pc := 161) (i := 0) rfl rfl rfl dX12_init_161 ?_
  refine ev_iconst (pc := 162) (v := 5) (by decide) dX12_init_162 ?_
  obtain ⟨g204, h205⟩ := qk_el h203; clear h203
  obtain ⟨b206, e207, h208⟩ := qv_el h205; clear h205
  obtain ⟨S209, e210, h211⟩ := qv_el h208; clear h208
  refine zv_newa (pc := 163) (by omega) (by omega) (k := 0) (j := 0) (kd := 11) (N := 5) (atype := .int) g204 (by simp) e207 e210 gw_193 (by decide) (by decide) (by decide) dX12_init_163 ?_
  obtain ⟨S212, e213, h214⟩ := qv_el h211; clear h211
  refine yv_putPF (pc := 165) fn_940 rfl rfl (is_nK (is_sP (is_nK (is_sI (is_sP (is_nK (is_sP (is_nK (is_sP (is_nK (is_sP (is_nK (is_sP (is_nK (is_sP (is_nK (is_sP (is_nK (is_sP (is_nK (is_sP (is_nK (is_sP (is_nK (is_sP (is_nK (is_sP (is_nK (is_sP (is_nK (is_sP (is_nK (is_sP (is_nK (is_sP (is_nK (is_sP (isb_el g9) e12) e20) e23) e31) e34) e42) e45) e53) e56) e64) e67) e75) e78) e86) e89) e97) e100) e108) e111) e119) e122) e130) e133) e141) e144) e152) e155) e163) e166) e174) e177) e185) e188) e191) e199) e202) e210) e213 gw_1180 dX12_init_165 ?_
  refine ev_iconst (pc := 168) (v := 0) (by decide) dX12_init_168 ?_
  refine ev_istore_n (pc := 169) (L' := [some (.ref a), some (.int 0), none, none]) (i := 1) rfl (by decide) rfl rfl dX12_init_169 ?_
  refine ev_iconst (pc := 170) (v := 0) (by decide) dX12_init_170 ?_
  refine ev_istore_n (pc := 171) (L' := [some (.ref a), some (.int 0), some (.int 0), none]) (i := 2) rfl (by decide) rfl rfl dX12_init_171 ?_
  exact ev_weak (qL_s (qL_s (qL_s (qL_n qL_nil)))) (e_X12_init_172 F _ _ _ _ _ h214)
theorem dX2_add_0 : decode cX2_add 0 = .ok (.aload_n 0, 1) := by decide +kernel
theorem dX2_add_1 : decode cX2_add 1 = .ok (.getfield 13, 3) := by decide +kernel
theorem dX2_add_4 : decode cX2_add 4 = .ok (.ifCond .lt 36, 3) := by decide +kernel
theorem dX2_add_7 : decode cX2_add 7 = .ok (.aload_n 0, 1) := by decide +kernel
theorem dX2_add_8 : decode cX2_add 8 = .ok (.getfield 13, 3) := by decide +kernel
theorem dX2_add_11 : decode cX2_add 11 = .ok (.aload_n 0, 1) := by decide +kernel
theorem dX2_add_12 : decode cX2_add 12 = .ok (.getfield 7, 3) := by decide +kernel
theorem dX2_add_15 : decode cX2_add 15 = .ok (.arraylength, 1) := by decide +kernel
theorem dX2_add_16 : decode cX2_add 16 = .ok (.if_icmp .ge 24, 3) := by decide +kernel
theorem dX2_add_19 : decode cX2_add 19 = .ok (.aload_n 0, 1) := by decide +kernel
theorem dX2_add_20 : decode cX2_add 20 = .ok (.getfield 7, 3) := by decide +kernel
theorem dX2_add_23 : decode cX2_add 23 = .ok (.aload_n 0, 1) := by decide +kernel
theorem dX2_add_24 : decode cX2_add 24 = .ok (.getfield 13, 3) := by decide +kernel
theorem dX2_add_27 : decode cX2_add 27 = .ok (.iload_n 1, 1) := by decide +kernel
theorem dX2_add_28 : decode cX2_add 28 = .ok (.i2b, 1) := by decide +kernel
theorem dX2_add_29 : decode cX2_add 29 = .ok (.bastore, 1) := by decide +kernel
theorem dX2_add_30 : decode cX2_add 30 = .ok (.aload_n 0, 1) := by decide +kernel
theorem dX2_add_31 : decode cX2_add 31 = .ok (.dup, 1) := by decide +kernel
theorem dX2_add_32 : decode cX2_add 32 = .ok (.getfield 13, 3) := by decide +kernel
theorem dX2_add_35 : decode cX2_add 35 = .ok (.iconst 1, 1) := by decide +kernel
theorem dX2_add_36 : decode cX2_add 36 = .ok (.iadd, 1) := by decide +kernel
theorem dX2_add_37 : decode cX2_add 37 = .ok (.putfield 13, 3) := by decide +kernel
theorem dX2_add_40 : decode cX2_add 40 = .ok (.return_, 1) := by decide +kernel
theorem e_X2_add {X : gk_X} {F : Nat} {S : gk_S} {a : Nat} {p0 : Int32} {r : (Unit × gk_S)} (h0 : f_X2_add F S a p0 = some r) : EvM X m_X2_add 1 0 0 [.ref a, .int p0] S (qRU r) := by
  unfold f_X2_add at h0
  refine ev_method (by decide +kernel) rfl rfl (Nat.le_of_ble_eq_true rfl) ?_
  show EvW X m_X2_add 1 0 0 0 [some (.ref a), some (.int p0)] [] S _
  refine ev_aload_n (pc := 0) (i := 0) rfl rfl rfl dX2_add_0 ?_
  obtain ⟨g1, h2⟩ := qk_el h0; clear h0
  obtain ⟨x3, e4, h5⟩ := qv_el h2; clear h2
  refine xv_getIv (pc := 1) fn_101 (isb_el g1) e4 gw_40 dX2_add_1 ?_
  refine ev_if_lt (pc := 4) (tgt := 40) (by decide) dX2_add_4 (fun c6 => ?_) (fun c6 => ?_)
  · replace h5 := qi_t h5 c6
    exact ev_return (pc := 40) rfl (qRU_eq h5) dX2_add_40
  · replace h5 := qi_f h5 c6
    refine ev_aload_n (pc := 7) (i := 0) rfl rfl rfl dX2_add_7 ?_
    obtain ⟨x8, e9, h10⟩ := qv_el h5; clear h5
    refine xv_getIv (pc := 8) fn_101 (isb_el g1) e9 gw_40 dX2_add_8 ?_
    refine ev_aload_n (pc := 11) (i := 0) rfl rfl rfl dX2_add_11 ?_
    obtain ⟨b11, e12, h13⟩ := qP_el h10; clear h10
    refine xv_getP (pc := 12) fn_100 (isb_el g1) e12 gw_39 dX2_add_12 ?_
    obtain ⟨g14, h15⟩ := qk_el h13; clear h13
    obtain ⟨n16, e17, h18⟩ := qv_el h15; clear h15
    refine xv_alen (pc := 15) (n := n16) (isb_el g14) (by decide) e17 dX2_add_15 ?_
    refine ev_ic_ge (pc := 16) (tgt := 40) (by decide) dX2_add_16 (fun c19 => ?_) (fun c19 => ?_)
    · replace h18 := qi_t h18 c19
      exact ev_return (pc := 40) rfl (qRU_eq h18) dX2_add_40
    · replace h18 := qi_f h18 c19
      refine ev_aload_n (pc := 19) (i := 0) rfl rfl rfl dX2_add_19 ?_
      obtain ⟨b21, e22, h23⟩ := qP_el h18; clear h18
      refine xv_getP (pc := 20) fn_100 (isb_el g1) e22 gw_39 dX2_add_20 ?_
      refine ev_aload_n (pc := 23) (i := 0) rfl rfl rfl dX2_add_23 ?_
      obtain ⟨x24, e25, h26⟩ := qv_el h23; clear h23
      refine xv_getIv (pc := 24) fn_101 (isb_el g1) e25 gw_40 dX2_add_24 ?_
      refine ev_iload_n (pc := 27) (i := 1) rfl rfl dX2_add_27 ?_
      refine ev_i2b (pc := 28)  dX2_add_28 ?_
      obtain ⟨g27, h28⟩ := qk_el h26; clear h26
      obtain ⟨g29, h30⟩ := qk_el h28; clear h28
      obtain ⟨S31, e32, h33⟩ := qv_el h30; clear h30
      refine yv_bast (pc := 29) (isb_el g27) (inb_el g29) e32 dX2_add_29 ?_
      refine ev_aload_n (pc := 30) (i := 0) rfl rfl rfl dX2_add_30 ?_
      refine ev_dup (pc := 31) (.inr rfl) dX2_add_31 ?_
      obtain ⟨x34, e35, h36⟩ := qv_el h33; clear h33
      refine xv_getIv (pc := 32) fn_101 (is_wB (isb_el g1) e32) e35 gw_40 dX2_add_32 ?_
      refine ev_iconst (pc := 35) (v := 1) (by decide) dX2_add_35 ?_
      refine ev_iadd (pc := 36)  dX2_add_36 ?_
      obtain ⟨S37, e38, h39⟩ := qv_el h36; clear h36
      refine yv_putI (pc := 37) fn_101 ⟨rfl, rfl⟩ (is_wB (isb_el g1) e32) e38 gw_40 dX2_add_37 ?_
      exact ev_return (pc := 40) rfl (qRU_eq h39) dX2_add_40
theorem dX2_addPair_0 : decode cX2_addPair 0 = .ok (.aload_n 0, 1) := by decide +kernel
theorem dX2_addPair_1 : decode cX2_addPair 1 = .ok (.iload_n 1, 1) := by decide +kernel
theorem dX2_addPair_2 : decode cX2_addPair 2 = .ok (.bipush 8, 2) := by decide +kernel
theorem dX2_addPair_4 : decode cX2_addPair 4 = .ok (.iushr, 1) := by decide +kernel
theorem dX2_addPair_5 : decode cX2_addPair 5 = .ok (.invokevirtual 26, 3) := by decide +kernel
theorem dX2_addPair_8 : decode cX2_addPair 8 = .ok (.aload_n 0, 1) := by decide +kernel
theorem dX2_addPair_9 : decode cX2_addPair 9 = .ok (.iload_n 1, 1) := by decide +kernel
theorem dX2_addPair_10 : decode cX2_addPair 10 = .ok (.invokevirtual 26, 3) := by decide +kernel
theorem dX2_addPair_13 : decode cX2_addPair 13 = .ok (.return_, 1) := by decide +kernel
theorem e_X2_addPair {X : gk_X} {F : Nat} {S : gk_S} {a : Nat} {p0 : Int32} {r : (Unit × gk_S)} (h0 : f_X2_addPair F S a p0 = some r) : EvM X m_X2_addPair 2 0 0 [.ref a, .int p0] S (qRU r) := by
  unfold f_X2_addPair at h0
  refine ev_method (by decide +kernel) rfl rfl (Nat.le_of_ble_eq_true rfl) ?_
  show EvW X m_X2_addPair 2 0 0 0 [some (.ref a), some (.int p0)] [] S _
  refine ev_aload_n (pc := 0) (i := 0) rfl rfl rfl dX2_addPair_0 ?_
  refine ev_iload_n (pc := 1) (i := 1) rfl rfl dX2_addPair_1 ?_
  refine ev_bipush (pc := 2) (v := 8) (by decide) dX2_addPair_2 ?_
  refine ev_iushr (pc := 4)  dX2_addPair_4 ?_
  obtain ⟨x1, e2, h3⟩ := qv_el h0; clear h0
  refine xv_top e2 ?_
  obtain ⟨g4, h5⟩ := qk_el h3; clear h3
  obtain ⟨x6, S7, e8, h9⟩ := qc_el h5; clear h5
  refine xv_callV (pc := 5) (st := []) (as := [.int x1]) (v := none) (S' := S7) ok_X2_add (e_X2_add e8) (isb_el g4) (by decide) rfl (Nat.le_of_ble_eq_true rfl) rfl gw_337 dX2_addPair_5 ?_
  refine ev_aload_n (pc := 8) (i := 0) rfl rfl rfl dX2_addPair_8 ?_
  refine ev_iload_n (pc := 9) (i := 1) rfl rfl dX2_addPair_9 ?_
  obtain ⟨g10, h11⟩ := qk_el h9; clear h9
  obtain ⟨x12, S13, e14, h15⟩ := qc_el h11; clear h11
  refine xv_callV (pc := 10) (st := []) (as := [.int p0]) (v := none) (S' := S13) ok_X2_add (e_X2_add e14) (isb_el g10) (by decide) rfl (Nat.le_of_ble_eq_true rfl) rfl gw_337 dX2_addPair_10 ?_
  exact ev_return (pc := 13) rfl (qRU_eq h15) dX2_addPair_13
theorem dX2_addQuad_0 : decode cX2_addQuad 0 = .ok (.aload_n 0, 1) := by decide +kernel
theorem dX2_addQuad_1 : decode cX2_addQuad 1 = .ok (.iload_n 1, 1) := by decide +kernel
theorem dX2_addQuad_2 : decode cX2_addQuad 2 = .ok (.bipush 16, 2) := by decide +kernel
theorem dX2_addQuad_4 : decode cX2_addQuad 4 = .ok (.iushr, 1) := by decide +kernel
theorem dX2_addQuad_5 : decode cX2_addQuad 5 = .ok (.invokevirtual 30, 3) := by decide +kernel
theorem dX2_addQuad_8 : decode cX2_addQuad 8 = .ok (.aload_n 0, 1) := by decide +kernel
theorem dX2_addQuad_9 : decode cX2_addQuad 9 = .ok (.iload_n 1, 1) := by decide +kernel
theorem dX2_addQuad_10 : decode cX2_addQuad 10 = .ok (.invokevirtual 30, 3) := by decide +kernel
theorem dX2_addQuad_13 : decode cX2_addQuad 13 = .ok (.return_, 1) := by decide +kernel
theorem e_X2_addQuad {X : gk_X} {F : Nat} {S : gk_S} {a : Nat} {p0 : Int32} {r : (Unit × gk_S)} (h0 : f_X2_addQuad F S a p0 = some r) : EvM X m_X2_addQuad 3 0 0 [.ref a, .int p0] S (qRU r) := by
  unfold f_X2_addQuad at h0
  refine ev_method (by decide +kernel) rfl rfl (Nat.le_of_ble_eq_true rfl) ?_
  show EvW X m_X2_addQuad 3 0 0 0 [some (.ref a), some (.int p0)] [] S _
  refine ev_aload_n (pc := 0) (i := 0) rfl rfl rfl dX2_addQuad_0 ?_
  refine ev_iload_n (pc := 1) (i := 1) rfl rfl dX2_addQuad_1 ?_
  refine ev_bipush (pc := 2) (v := 16) (by decide) dX2_addQuad_2 ?_
  refine ev_iushr (pc := 4)  dX2_addQuad_4 ?_
  obtain ⟨x1, e2, h3⟩ := qv_el h0; clear h0
  refine xv_top e2 ?_
  obtain ⟨g4, h5⟩ := qk_el h3; clear h3
  obtain ⟨x6, S7, e8, h9⟩ := qc_el h5; clear h5
  refine xv_callV (pc := 5) (st := []) (as := [.int x1]) (v := none) (S' := S7) ok_X2_addPair (e_X2_addPair e8) (isb_el g4) (by decide) rfl (Nat.le_of_ble_eq_true rfl) rfl gw_333 dX2_addQuad_5 ?_
  refine ev_aload_n (pc := 8) (i := 0) rfl rfl rfl dX2_addQuad_8 ?_
  refine ev_iload_n (pc := 9) (i := 1) rfl rfl dX2_addQuad_9 ?_
  obtain ⟨g10, h11⟩ := qk_el h9; clear h9
  obtain ⟨x12, S13, e14, h15⟩ := qc_el h11; clear h11
  refine xv_callV (pc := 10) (st := []) (as := [.int p0]) (v := none) (S' := S13) ok_X2_addPair (e_X2_addPair e14) (isb_el g10) (by decide) rfl (Nat.le_of_ble_eq_true rfl) rfl gw_333 dX2_addQuad_10 ?_
  exact ev_return (pc := 13) rfl (qRU_eq h15) dX2_addQuad_13
theorem dX11_feed_0 : decode cX11_feed 0 = .ok (.aload_n 0, 1) := by decide +kernel
theorem dX11_feed_1 : decode cX11_feed 1 = .ok (.getfield 14, 3) := by decide +kernel
theorem dX11_feed_4 : decode cX11_feed 4 = .ok (.getfield 83, 3) := by decide +kernel
theorem dX11_feed_7 : decode cX11_feed 7 = .ok (.bipush 20, 2) := by decide +kernel
theorem dX11_feed_9 : decode cX11_feed 9 = .ok (.iadd, 1) := by decide +kernel
theorem dX11_feed_10 : decode cX11_feed 10 = .ok (.sipush 2100, 3) := by decide +kernel
theorem dX11_feed_13 : decode cX11_feed 13 = .ok (.if_icmp .le 5, 3) := by decide +kernel
theorem dX11_feed_16 : decode cX11_feed 16 = .ok (.iconst (-1), 1) := by decide +kernel
theorem dX11_feed_17 : decode cX11_feed 17 = .ok (.ireturn, 1) := by decide +kernel
theorem dX11_feed_18 : decode cX11_feed 18 = .ok (.aload_n 0, 1) := by decide +kernel
theorem dX11_feed_19 : decode cX11_feed 19 = .ok (.getfield 14, 3) := by decide +kernel
theorem dX11_feed_22 : decode cX11_feed 22 = .ok (.iload_n 1, 1) := by decide +kernel
theorem dX11_feed_23 : decode cX11_feed 23 = .ok (.invokevirtual 86, 3) := by decide +kernel
theorem dX11_feed_26 : decode cX11_feed 26 = .ok (.aload_n 0, 1) := by decide +kernel
theorem dX11_feed_27 : decode cX11_feed 27 = .ok (.getfield 14, 3) := by decide +kernel
theorem dX11_feed_30 : decode cX11_feed 30 = .ok (.iload_n 2, 1) := by decide +kernel
theorem dX11_feed_31 : decode cX11_feed 31 = .ok (.invokevirtual 86, 3) := by decide +kernel
theorem dX11_feed_34 : decode cX11_feed 34 = .ok (.aload_n 0, 1) := by decide +kernel
theorem dX11_feed_35 : decode cX11_feed 35 = .ok (.getfield 14, 3) := by decide +kernel
theorem dX11_feed_38 : decode cX11_feed 38 = .ok (.iload_n 3, 1) := by decide +kernel
theorem dX11_feed_39 : decode cX11_feed 39 = .ok (.invokevirtual 86, 3) := by decide +kernel
theorem dX11_feed_42 : decode cX11_feed 42 = .ok (.aload_n 0, 1) := by decide +kernel
theorem dX11_feed_43 : decode cX11_feed 43 = .ok (.getfield 14, 3) := by decide +kernel
theorem dX11_feed_46 : decode cX11_feed 46 = .ok (.iload 4, 2) := by decide +kernel
theorem dX11_feed_48 : decode cX11_feed 48 = .ok (.invokevirtual 86, 3) := by decide +kernel
theorem dX11_feed_51 : decode cX11_feed 51 = .ok (.aload_n 0, 1) := by decide +kernel
theorem dX11_feed_52 : decode cX11_feed 52 = .ok (.getfield 14, 3) := by decide +kernel
theorem dX11_feed_55 : decode cX11_feed 55 = .ok (.iload 5, 2) := by decide +kernel
theorem dX11_feed_57 : decode cX11_feed 57 = .ok (.invokevirtual 86, 3) := by decide +kernel
theorem dX11_feed_60 : decode cX11_feed 60 = .ok (.aload_n 0, 1) := by decide +kernel
theorem dX11_feed_61 : decode cX11_feed 61 = .ok (.getfield 14, 3) := by decide +kernel
theorem dX11_feed_64 : decode cX11_feed 64 = .ok (.getfield 83, 3) := by decide +kernel
theorem dX11_feed_67 : decode cX11_feed 67 = .ok (.ireturn, 1) := by decide +kernel
theorem e_X11_feed {X : gk_X} {F : Nat} {S : gk_S} {a : Nat} {p0 : Int32} {p1 : Int32} {p2 : Int32} {p3 : Int32} {p4 : Int32} {r : (Int32 × gk_S)} (h0 : f_X11_feed F S a p0 p1 p2 p3 p4 = some r) : EvM X m_X11_feed 4 0 0 [.ref a, .int p0, .int p1, .int p2, .int p3, .int p4] S (qRI r) := by
  unfold f_X11_feed at h0
  refine ev_method (by decide +kernel) rfl rfl (Nat.le_of_ble_eq_true rfl) ?_
  show EvW X m_X11_feed 4 0 0 0 [some (.ref a), some (.int p0), some (.int p1), some (.int p2), some (.int p3), some (.int p4)] [] S _
  refine ev_aload_n (pc := 0) (i := 0) rfl rfl rfl dX11_feed_0 ?_
  obtain ⟨g1, h2⟩ := qk_el h0; clear h0
  obtain ⟨b3, e4, h5⟩ := qP_el h2; clear h2
  refine xv_getP (pc := 1) fn_800 (isb_el g1) e4 gw_282 dX11_feed_1 ?_
  obtain ⟨g6, h7⟩ := qk_el h5; clear h5
  obtain ⟨x8, e9, h10⟩ := qv_el h7; clear h7
  refine xv_getIv (pc := 4) fn_101 (isb_el g6) e9 gw_42 dX11_feed_4 ?_
  refine ev_bipush (pc := 7) (v := 20) (by decide) dX11_feed_7 ?_
  refine ev_iadd (pc := 9)  dX11_feed_9 ?_
  refine ev_sipush (pc := 10) (v := 2100) (by decide) dX11_feed_10 ?_
  refine ev_ic_le (pc := 13) (tgt := 18) (by decide) dX11_feed_13 (fun c11 => ?_) (fun c11 => ?_)
  · replace h10 := qi_t h10 c11
    refine ev_aload_n (pc := 18) (i := 0) rfl rfl rfl dX11_feed_18 ?_
    obtain ⟨b13, e14, h15⟩ := qP_el h10; clear h10
    refine xv_getP (pc := 19) fn_800 (isb_el g1) e14 gw_282 dX11_feed_19 ?_
    refine ev_iload_n (pc := 22) (i := 1) rfl rfl dX11_feed_22 ?_
    obtain ⟨g16, h17⟩ := qk_el h15; clear h15
    obtain ⟨x18, S19, e20, h21⟩ := qc_el h17; clear h17
    refine xv_callV (pc := 23) (st := []) (as := [.int p0]) (v := none) (S' := S19) ok_X2_addQuad (e_X2_addQuad e20) (isb_el g16) (by decide) rfl (Nat.le_of_ble_eq_true rfl) rfl gw_329 dX11_feed_23 ?_
    refine ev_aload_n (pc := 26) (i := 0) rfl rfl rfl dX11_feed_26 ?_
    obtain ⟨g22, h23⟩ := qk_el h21; clear h21
    obtain ⟨b24, e25, h26⟩ := qP_el h23; clear h23
    refine xv_getP (pc := 27) fn_800 (isb_el g22) e25 gw_282 dX11_feed_27 ?_
    refine ev_iload_n (pc := 30) (i := 2) rfl rfl dX11_feed_30 ?_
    obtain ⟨g27, h28⟩ := qk_el h26; clear h26
    obtain ⟨x29, S30, e31, h32⟩ := qc_el h28; clear h28
    refine xv_callV (pc := 31) (st := []) (as := [.int p1]) (v := none) (S' := S30) ok_X2_addQuad (e_X2_addQuad e31) (isb_el g27) (by decide) rfl (Nat.le_of_ble_eq_true rfl) rfl gw_329 dX11_feed_31 ?_
    refine ev_aload_n (pc := 34) (i := 0) rfl rfl rfl dX11_feed_34 ?_
    obtain ⟨g33, h34⟩ := qk_el h32; clear h32
    obtain ⟨b35, e36, h37⟩ := qP_el h34; clear h34
    refine xv_getP (pc := 35) fn_800 (isb_el g33) e36 gw_282 dX11_feed_35 ?_
    refine ev_iload_n (pc := 38) (i := 3) rfl rfl dX11_feed_38 ?_
    obtain ⟨g38, h39⟩ := qk_el h37; clear h37
    obtain ⟨x40, S41, e42, h43⟩ := qc_el h39; clear h39
    refine xv_callV (pc := 39) (st := []) (as := [.int p2]) (v := none) (S' := S41) ok_X2_addQuad (e_X2_addQuad e42) (isb_el g38) (by decide) rfl (Nat.le_of_ble_eq_true rfl) rfl gw_329 dX11_feed_39 ?_
    refine ev_aload_n (pc := 42) (i := 0) rfl rfl rfl dX11_feed_42 ?_
    obtain ⟨g44, h45⟩ := qk_el h43; clear h43
    obtain ⟨b46, e47, h48⟩ := qP_el h45; clear h45
    refine xv_getP (pc := 43) fn_800 (isb_el g44) e47 gw_282 dX11_feed_43 ?_
    refine ev_iload (pc := 46) (i := 4) rfl dX11_feed_46 ?_
    obtain ⟨g49, h50⟩ := qk_el h48; clear h48
    obtain ⟨x51, S52, e53, h54⟩ := qc_el h50; clear h50
    refine xv_callV (pc := 48) (st := []) (as := [.int p3]) (v := none) (S' := S52) ok_X2_addQuad (e_X2_addQuad e53) (isb_el g49) (by decide) rfl (Nat.le_of_ble_eq_true rfl) rfl gw_329 dX11_feed_48 ?_
    refine ev_aload_n (pc := 51) (i := 0) rfl rfl rfl dX11_feed_51 ?_
    obtain ⟨g55, h56⟩ := qk_el h54; clear h54
    obtain ⟨b57, e58, h59⟩ := qP_el h56; clear h56
    refine xv_getP (pc := 52) fn_800 (isb_el g55) e58 gw_282 dX11_feed_52 ?_
    refine ev_iload (pc := 55) (i := 5) rfl dX11_feed_55 ?_
    obtain ⟨g60, h61⟩ := qk_el h59; clear h59
    obtain ⟨x62, S63, e64, h65⟩ := qc_el h61; clear h61
    refine xv_callV (pc := 57) (st := []) (as := [.int p4]) (v := none) (S' := S63) ok_X2_addQuad (e_X2_addQuad e64) (isb_el g60) (by decide) rfl (Nat.le_of_ble_eq_true rfl) rfl gw_329 dX11_feed_57 ?_
    refine ev_aload_n (pc := 60) (i := 0) rfl rfl rfl dX11_feed_60 ?_
    obtain ⟨g66, h67⟩ := qk_el h65; clear h65
    obtain ⟨b68, e69, h70⟩ := qP_el h67; clear h67
    refine xv_getP (pc := 61) fn_800 (isb_el g66) e69 gw_282 dX11_feed_61 ?_
    obtain ⟨g71, h72⟩ := qk_el h70; clear h70
    obtain ⟨x73, e74, h75⟩ := qv_el h72; clear h72
    refine xv_getIv (pc := 64) fn_101 (isb_el g71) e74 gw_42 dX11_feed_64 ?_
    exact ev_ireturn (pc := 67) rfl (nar_int _) (qRI_eq h75) dX11_feed_67
  · replace h10 := qi_f h10 c11
    refine ev_iconst (pc := 16) (v := -1) (by decide) dX11_feed_16 ?_
    exact ev_ireturn (pc := 17) rfl (nar_int _) (qRI_eq h10) dX11_feed_17
theorem dX12_four_0 : decode cX12_four 0 = .ok (.bipush 24, 2) := by decide +kernel
theorem dX12_four_2 : decode cX12_four 2 = .ok (.istore_n 2, 1) := by decide +kernel
theorem dX12_four_3 : decode cX12_four 3 = .ok (.iload_n 2, 1) := by decide +kernel
theorem dX12_four_4 : decode cX12_four 4 = .ok (.ifCond .lt 32, 3) := by decide +kernel
theorem dX12_four_7 : decode cX12_four 7 = .ok (.aload_n 0, 1) := by decide +kernel
theorem dX12_four_8 : decode cX12_four 8 = .ok (.getfield 14, 3) := by decide +kernel
theorem dX12_four_11 : decode cX12_four 11 = .ok (.aload_n 0, 1) := by decide +kernel
theorem dX12_four_12 : decode cX12_four 12 = .ok (.getfield 7, 3) := by decide +kernel
theorem dX12_four_15 : decode cX12_four 15 = .ok (.iload_n 1, 1) := by decide +kernel
theorem dX12_four_16 : decode cX12_four 16 = .ok (.iload_n 2, 1) := by decide +kernel
theorem dX12_four_17 : decode cX12_four 17 = .ok (.ishr, 1) := by decide +kernel
theorem dX12_four_18 : decode cX12_four 18 = .ok (.i2b, 1) := by decide +kernel
theorem dX12_four_19 : decode cX12_four 19 = .ok (.bastore, 1) := by decide +kernel
theorem dX12_four_20 : decode cX12_four 20 = .ok (.aload_n 0, 1) := by decide +kernel
theorem dX12_four_21 : decode cX12_four 21 = .ok (.dup, 1) := by decide +kernel
theorem dX12_four_22 : decode cX12_four 22 = .ok (.getfield 7, 3) := by decide +kernel
theorem dX12_four_25 : decode cX12_four 25 = .ok (.iconst 1, 1) := by decide +kernel
theorem dX12_four_26 : decode cX12_four 26 = .ok (.iadd, 1) := by decide +kernel
theorem dX12_four_27 : decode cX12_four 27 = .ok (.putfield 7, 3) := by decide +kernel
theorem dX12_four_30 : decode cX12_four 30 = .ok (.iinc 2 (-8), 3) := by decide +kernel
theorem dX12_four_33 : decode cX12_four 33 = .ok (.goto (-30), 3) := by decide +kernel
theorem dX12_four_36 : decode cX12_four 36 = .ok (.return_, 1) := by decide +kernel
theorem e_X12_four_3 {X : gk_X} {F : Nat} : ∀ (n : Nat) (l0 : Nat) (l1 : Int32) (l2 : Int32) (S : gk_S) (r : (Unit × gk_S)), f_X12_four_3 F n l0 l1 l2 S = some r → EvW X m_X12_four 1 0 0 3 [some (.ref l0), some (.int l1), some (.int l2)] [] S (qRU r) := by
  intro n
  induction n with
  | zero => intro l0 l1 l2 S r h0; rw [f_X12_four_3] at h0; cases h0
  | succ n ih =>
    intro l0 l1 l2 S r h0; rw [f_X12_four_3] at h0
    refine ev_iload_n (pc := 3) (i := 2) rfl rfl dX12_four_3 ?_
    refine ev_if_lt (pc := 4) (tgt := 36) (by decide) dX12_four_4 (fun c1 => ?_) (fun c1 => ?_)
    · replace h0 := qi_t h0 c1
      exact ev_return (pc := 36) rfl (qRU_eq h0) dX12_four_36
    · replace h0 := qi_f h0 c1
      refine ev_aload_n (pc := 7) (i := 0) rfl rfl rfl dX12_four_7 ?_
      obtain ⟨g3, h4⟩ := qk_el h0; clear h0
      obtain ⟨b5, e6, h7⟩ := qP_el h4; clear h4
      refine xv_getP (pc := 8) fn_901 (isb_el g3) e6 gw_1141 dX12_four_8 ?_
      refine ev_aload_n (pc := 11) (i := 0) rfl rfl rfl dX12_four_11 ?_
      obtain ⟨x8, e9, h10⟩ := qv_el h7; clear h7
      refine xv_getIv (pc := 12) fn_902 (isb_el g3) e9 gw_1142 dX12_four_12 ?_
      refine ev_iload_n (pc := 15) (i := 1) rfl rfl dX12_four_15 ?_
      refine ev_iload_n (pc := 16) (i := 2) rfl rfl dX12_four_16 ?_
      refine ev_ishr (pc := 17)  dX12_four_17 ?_
      refine ev_i2b (pc := 18)  dX12_four_18 ?_
      obtain ⟨g11, h12⟩ := qk_el h10; clear h10
      obtain ⟨g13, h14⟩ := qk_el h12; clear h12
      obtain ⟨S15, e16, h17⟩ := qv_el h14; clear h14
      refine yv_bast (pc := 19) (isb_el g11) (inb_el g13) e16 dX12_four_19 ?_
      refine ev_aload_n (pc := 20) (i := 0) rfl rfl rfl dX12_four_20 ?_
      refine ev_dup (pc := 21) (.inr rfl) dX12_four_21 ?_
      obtain ⟨x18, e19, h20⟩ := qv_el h17; clear h17
      refine xv_getIv (pc := 22) fn_902 (is_wB (isb_el g3) e16) e19 gw_1142 dX12_four_22 ?_
      refine ev_iconst (pc := 25) (v := 1) (by decide) dX12_four_25 ?_
      refine ev_iadd (pc := 26)  dX12_four_26 ?_
      obtain ⟨S21, e22, h23⟩ := qv_el h20; clear h20
      refine yv_putI (pc := 27) fn_902 ⟨rfl, rfl⟩ (is_wB (isb_el g3) e16) e22 gw_1142 dX12_four_27 ?_
      refine ev_iinc (pc := 30) (L' := [some (.ref l0), some (.int l1), some (.int (l2 + (-8)))]) (i := 2) (v := (l2 + (-8))) rfl (congrArg (l2 + ·) (by decide)) (by decide) rfl rfl dX12_four_30 ?_
      refine ev_goto (pc := 33) (tgt := 3) (by decide) dX12_four_33 ?_
      exact (ev_weak (qL_s (qL_s (qL_s qL_nil))) (ih _ _ _ _ _ h23))
theorem e_X12_four {X : gk_X} {F : Nat} {S : gk_S} {a : Nat} {p0 : Int32} {r : (Unit × gk_S)} (h0 : f_X12_four F S a p0 = some r) : EvM X m_X12_four 1 0 0 [.ref a, .int p0] S (qRU r) := by
  unfold f_X12_four at h0
  refine ev_method (by decide +kernel) rfl rfl (Nat.le_of_ble_eq_true rfl) ?_
  show EvW X m_X12_four 1 0 0 0 [some (.ref a), some (.int p0), none] [] S _
  refine ev_bipush (pc := 0) (v := 24) (by decide) dX12_four_0 ?_
  refine ev_istore_n (pc := 2) (L' := [some (.ref a), some (.int p0), some (.int 24)]) (i := 2) rfl (by decide) rfl rfl dX12_four_2 ?_
  exact ev_weak (qL_s (qL_s (qL_s qL_nil))) (e_X12_four_3 F _ _ _ _ _ h0)
theorem dX12_feed_0 : decode cX12_feed 0 = .ok (.aload_n 0, 1) := by decide +kernel
theorem dX12_feed_1 : decode cX12_feed 1 = .ok (.iconst 0, 1) := by decide +kernel
theorem dX12_feed_2 : decode cX12_feed 2 = .ok (.putfield 1, 3) := by decide +kernel
theorem dX12_feed_5 : decode cX12_feed 5 = .ok (.aload_n 0, 1) := by decide +kernel
theorem dX12_feed_6 : decode cX12_feed 6 = .ok (.getfield 7, 3) := by decide +kernel
theorem dX12_feed_9 : decode cX12_feed 9 = .ok (.bipush 20, 2) := by decide +kernel
theorem dX12_feed_11 : decode cX12_feed 11 = .ok (.iadd, 1) := by decide +kernel
theorem dX12_feed_12 : decode cX12_feed 12 = .ok (.sipush 2100, 3) := by decide +kernel
theorem dX12_feed_15 : decode cX12_feed 15 = .ok (.if_icmp .le 5, 3) := by decide +kernel
theorem dX12_feed_18 : decode cX12_feed 18 = .ok (.iconst (-1), 1) := by decide +kernel
theorem dX12_feed_19 : decode cX12_feed 19 = .ok (.ireturn, 1) := by decide +kernel
theorem dX12_feed_20 : decode cX12_feed 20 = .ok (.aload_n 0, 1) := by decide +kernel
theorem dX12_feed_21 : decode cX12_feed 21 = .ok (.iload_n 1, 1) := by decide +kernel
theorem dX12_feed_22 : decode cX12_feed 22 = .ok (.invokevirtual 10, 3) := by decide +kernel
theorem dX12_feed_25 : decode cX12_feed 25 = .ok (.aload_n 0, 1) := by decide +kernel
theorem dX12_feed_26 : decode cX12_feed 26 = .ok (.iload_n 2, 1) := by decide +kernel
theorem dX12_feed_27 : decode cX12_feed 27 = .ok (.invokevirtual 10, 3) := by decide +kernel
theorem dX12_feed_30 : decode cX12_feed 30 = .ok (.aload_n 0, 1) := by decide +kernel
theorem dX12_feed_31 : decode cX12_feed 31 = .ok (.iload_n 3, 1) := by decide +kernel
theorem dX12_feed_32 : decode cX12_feed 32 = .ok (.invokevirtual 10, 3) := by decide +kernel
theorem dX12_feed_35 : decode cX12_feed 35 = .ok (.aload_n 0, 1) := by decide +kernel
theorem dX12_feed_36 : decode cX12_feed 36 = .ok (.iload 4, 2) := by decide +kernel
theorem dX12_feed_38 : decode cX12_feed 38 = .ok (.invokevirtual 10, 3) := by decide +kernel
theorem dX12_feed_41 : decode cX12_feed 41 = .ok (.aload_n 0, 1) := by decide +kernel
theorem dX12_feed_42 : decode cX12_feed 42 = .ok (.iload 5, 2) := by decide +kernel
theorem dX12_feed_44 : decode cX12_feed 44 = .ok (.invokevirtual 10, 3) := by decide +kernel
theorem dX12_feed_47 : decode cX12_feed 47 = .ok (.aload_n 0, 1) := by decide +kernel
theorem dX12_feed_48 : decode cX12_feed 48 = .ok (.getfield 7, 3) := by decide +kernel
theorem dX12_feed_51 : decode cX12_feed 51 = .ok (.ireturn, 1) := by decide +kernel
theorem e_X12_feed {X : gk_X} {F : Nat} {S : gk_S} {a : Nat} {p0 : Int32} {p1 : Int32} {p2 : Int32} {p3 : Int32} {p4 : Int32} {r : (Int32 × gk_S)} (h0 : f_X12_feed F S a p0 p1 p2 p3 p4 = some r) : EvM X m_X12_feed 2 0 0 [.ref a, .int p0, .int p1, .int p2, .int p3, .int p4] S (qRI r) := by
  unfold f_X12_feed at h0
  refine ev_method (by decide +kernel) rfl rfl (Nat.le_of_ble_eq_true rfl) ?_
  show EvW X m_X12_feed 2 0 0 0 [some (.ref a), some (.int p0), some (.int p1), some (.int p2), some (.int p3), some (.int p4)] [] S _
  refine ev_aload_n (pc := 0) (i := 0) rfl rfl rfl dX12_feed_0 ?_
  refine ev_iconst (pc := 1) (v := 0) (by decide) dX12_feed_1 ?_
  obtain ⟨g1, h2⟩ := qk_el h0; clear h0
  obtain ⟨S3, e4, h5⟩ := qv_el h2; clear h2
  refine yv_putI (pc := 2) fn_900 ⟨rfl, rfl⟩ (isb_el g1) e4 gw_1140 dX12_feed_2 ?_
  refine ev_aload_n (pc := 5) (i := 0) rfl rfl rfl dX12_feed_5 ?_
  obtain ⟨x6, e7, h8⟩ := qv_el h5; clear h5
  refine xv_getIv (pc := 6) fn_902 (is_sI (isb_el g1) e4) e7 gw_1142 dX12_feed_6 ?_
  refine ev_bipush (pc := 9) (v := 20) (by decide) dX12_feed_9 ?_
  refine ev_iadd (pc := 11)  dX12_feed_11 ?_
  refine ev_sipush (pc := 12) (v := 2100) (by decide) dX12_feed_12 ?_
  refine ev_ic_le (pc := 15) (tgt := 20) (by decide) dX12_feed_15 (fun c9 => ?_) (fun c9 => ?_)
  · replace h8 := qi_t h8 c9
    refine ev_aload_n (pc := 20) (i := 0) rfl rfl rfl dX12_feed_20 ?_
    refine ev_iload_n (pc := 21) (i := 1) rfl rfl dX12_feed_21 ?_
    obtain ⟨x11, S12, e13, h14⟩ := qc_el h8; clear h8
    refine xv_callV (pc := 22) (st := []) (as := [.int p0]) (v := none) (S' := S12) ok_X12_four (e_X12_four e13) (is_sI (isb_el g1) e4) (by decide) rfl (Nat.le_of_ble_eq_true rfl) rfl gw_1123 dX12_feed_22 ?_
    refine ev_aload_n (pc := 25) (i := 0) rfl rfl rfl dX12_feed_25 ?_
    refine ev_iload_n (pc := 26) (i := 2) rfl rfl dX12_feed_26 ?_
    obtain ⟨g15, h16⟩ := qk_el h14; clear h14
    obtain ⟨x17, S18, e19, h20⟩ := qc_el h16; clear h16
    refine xv_callV (pc := 27) (st := []) (as := [.int p1]) (v := none) (S' := S18) ok_X12_four (e_X12_four e19) (isb_el g15) (by decide) rfl (Nat.le_of_ble_eq_true rfl) rfl gw_1123 dX12_feed_27 ?_
    refine ev_aload_n (pc := 30) (i := 0) rfl rfl rfl dX12_feed_30 ?_
    refine ev_iload_n (pc := 31) (i := 3) rfl rfl dX12_feed_31 ?_
    obtain ⟨g21, h22⟩ := qk_el h20; clear h20
    obtain ⟨x23, S24, e25, h26⟩ := qc_el h22; clear h22
    refine xv_callV (pc := 32) (st := []) (as := [.int p2]) (v := none) (S' := S24) ok_X12_four (e_X12_four e25) (isb_el g21) (by decide) rfl (Nat.le_of_ble_eq_true rfl) rfl gw_1123 dX12_feed_32 ?_
    refine ev_aload_n (pc := 35) (i := 0) rfl rfl rfl dX12_feed_35 ?_
    refine ev_iload (pc := 36) (i := 4) rfl dX12_feed_36 ?_
    obtain ⟨g27, h28⟩ := qk_el h26; clear h26
    obtain ⟨x29, S30, e31, h32⟩ := qc_el h28; clear h28
    refine xv_callV (pc := 38) (st := []) (as := [.int p3]) (v := none) (S' := S30) ok_X12_four (e_X12_four e31) (isb_el g27) (by decide) rfl (Nat.le_of_ble_eq_true rfl) rfl gw_1123 dX12_feed_38 ?_
    refine ev_aload_n (pc := 41) (i := 0) rfl rfl rfl dX12_feed_41 ?_
    refine ev_iload (pc := 42) (i := 5) rfl dX12_feed_42 ?_
    obtain ⟨g33, h34⟩ := qk_el h32; clear h32
    obtain ⟨x35, S36, e37, h38⟩ := qc_el h34; clear h34
    refine xv_callV (pc := 44) (st := []) (as := [.int p4]) (v := none) (S' := S36) ok_X12_four (e_X12_four e37) (isb_el g33) (by decide) rfl (Nat.le_of_ble_eq_true rfl) rfl gw_1123 dX12_feed_44 ?_
    refine ev_aload_n (pc := 47) (i := 0) rfl rfl rfl dX12_feed_47 ?_
    obtain ⟨g39, h40⟩ := qk_el h38; clear h38
    obtain ⟨x41, e42, h43⟩ := qv_el h40; clear h40
    refine xv_getIv (pc := 48) fn_902 (isb_el g39) e42 gw_1142 dX12_feed_48 ?_
    exact ev_ireturn (pc := 51) rfl (nar_int _) (qRI_eq h43) dX12_feed_51
  · replace h8 := qi_f h8 c9
    refine ev_iconst (pc := 18) (v := -1) (by decide) dX12_feed_18 ?_
    exact ev_ireturn (pc := 19) rfl (nar_int _) (qRI_eq h8) dX12_feed_19
theorem dX11_end_0 : decode cX11_end 0 = .ok (.iload_n 1, 1) := by decide +kernel
theorem dX11_end_1 : decode cX11_end 1 = .ok (.ifCond .lt 14, 3) := by decide +kernel
theorem dX11_end_4 : decode cX11_end 4 = .ok (.iload_n 1, 1) := by decide +kernel
theorem dX11_end_5 : decode cX11_end 5 = .ok (.aload_n 0, 1) := by decide +kernel
theorem dX11_end_6 : decode cX11_end 6 = .ok (.getfield 14, 3) := by decide +kernel
theorem dX11_end_9 : decode cX11_end 9 = .ok (.getfield 83, 3) := by decide +kernel
theorem dX11_end_12 : decode cX11_end 12 = .ok (.if_icmp .le 5, 3) := by decide +kernel
theorem dX11_end_15 : decode cX11_end 15 = .ok (.iconst 0, 1) := by decide +kernel
theorem dX11_end_16 : decode cX11_end 16 = .ok (.ireturn, 1) := by decide +kernel
theorem dX11_end_17 : decode cX11_end 17 = .ok (.aload_n 0, 1) := by decide +kernel
theorem dX11_end_18 : decode cX11_end 18 = .ok (.getfield 14, 3) := by decide +kernel
theorem dX11_end_21 : decode cX11_end 21 = .ok (.iload_n 1, 1) := by decide +kernel
theorem dX11_end_22 : decode cX11_end 22 = .ok (.putfield 83, 3) := by decide +kernel
theorem dX11_end_25 : decode cX11_end 25 = .ok (.iconst 1, 1) := by decide +kernel
theorem dX11_end_26 : decode cX11_end 26 = .ok (.ireturn, 1) := by decide +kernel
theorem e_X11_end {X : gk_X} {F : Nat} {S : gk_S} {a : Nat} {p0 : Int32} {r : (Int32 × gk_S)} (h0 : f_X11_end F S a p0 = some r) : EvM X m_X11_end 1 0 0 [.ref a, .int p0] S (qRI r) := by
  unfold f_X11_end at h0
  refine ev_method (by decide +kernel) rfl rfl (Nat.le_of_ble_eq_true rfl) ?_
  show EvW X m_X11_end 1 0 0 0 [some (.ref a), some (.int p0)] [] S _
  refine ev_iload_n (pc := 0) (i := 1) rfl rfl dX11_end_0 ?_
  refine ev_if_lt (pc := 1) (tgt := 15) (by decide) dX11_end_1 (fun c1 => ?_) (fun c1 => ?_)
  · replace h0 := qi_t h0 c1
    refine ev_iconst (pc := 15) (v := 0) (by decide) dX11_end_15 ?_
    exact ev_ireturn (pc := 16) rfl rfl (qRI_eq h0) dX11_end_16
  · replace h0 := qi_f h0 c1
    refine ev_iload_n (pc := 4) (i := 1) rfl rfl dX11_end_4 ?_
    refine ev_aload_n (pc := 5) (i := 0) rfl rfl rfl dX11_end_5 ?_
    obtain ⟨g3, h4⟩ := qk_el h0; clear h0
    obtain ⟨b5, e6, h7⟩ := qP_el h4; clear h4
    refine xv_getP (pc := 6) fn_800 (isb_el g3) e6 gw_282 dX11_end_6 ?_
    obtain ⟨g8, h9⟩ := qk_el h7; clear h7
    obtain ⟨x10, e11, h12⟩ := qv_el h9; clear h9
    refine xv_getIv (pc := 9) fn_101 (isb_el g8) e11 gw_42 dX11_end_9 ?_
    refine ev_ic_le (pc := 12) (tgt := 17) (by decide) dX11_end_12 (fun c13 => ?_) (fun c13 => ?_)
    · replace h12 := qi_t h12 c13
      refine ev_aload_n (pc := 17) (i := 0) rfl rfl rfl dX11_end_17 ?_
      obtain ⟨b15, e16, h17⟩ := qP_el h12; clear h12
      refine xv_getP (pc := 18) fn_800 (isb_el g3) e16 gw_282 dX11_end_18 ?_
      refine ev_iload_n (pc := 21) (i := 1) rfl rfl dX11_end_21 ?_
      obtain ⟨g18, h19⟩ := qk_el h17; clear h17
      obtain ⟨S20, e21, h22⟩ := qv_el h19; clear h19
      refine yv_putI (pc := 22) fn_101 ⟨rfl, rfl⟩ (isb_el g18) e21 gw_42 dX11_end_22 ?_
      refine ev_iconst (pc := 25) (v := 1) (by decide) dX11_end_25 ?_
      exact ev_ireturn (pc := 26) rfl rfl (qRI_eq h22) dX11_end_26
    · replace h12 := qi_f h12 c13
      refine ev_iconst (pc := 15) (v := 0) (by decide) dX11_end_15 ?_
      exact ev_ireturn (pc := 16) rfl rfl (qRI_eq h12) dX11_end_16
theorem dX12_end_0 : decode cX12_end 0 = .ok (.aload_n 0, 1) := by decide +kernel
theorem dX12_end_1 : decode cX12_end 1 = .ok (.iconst 0, 1) := by decide +kernel
theorem dX12_end_2 : decode cX12_end 2 = .ok (.putfield 1, 3) := by decide +kernel
theorem dX12_end_5 : decode cX12_end 5 = .ok (.iload_n 1, 1) := by decide +kernel
theorem dX12_end_6 : decode cX12_end 6 = .ok (.ifCond .lt 11, 3) := by decide +kernel
theorem dX12_end_9 : decode cX12_end 9 = .ok (.iload_n 1, 1) := by decide +kernel
theorem dX12_end_10 : decode cX12_end 10 = .ok (.aload_n 0, 1) := by decide +kernel
theorem dX12_end_11 : decode cX12_end 11 = .ok (.getfield 7, 3) := by decide +kernel
theorem dX12_end_14 : decode cX12_end 14 = .ok (.if_icmp .le 5, 3) := by decide +kernel
theorem dX12_end_17 : decode cX12_end 17 = .ok (.iconst 0, 1) := by decide +kernel
theorem dX12_end_18 : decode cX12_end 18 = .ok (.ireturn, 1) := by decide +kernel
theorem dX12_end_19 : decode cX12_end 19 = .ok (.aload_n 0, 1) := by decide +kernel
theorem dX12_end_20 : decode cX12_end 20 = .ok (.iload_n 1, 1) := by decide +kernel
theorem dX12_end_21 : decode cX12_end 21 = .ok (.putfield 7, 3) := by decide +kernel
theorem dX12_end_24 : decode cX12_end 24 = .ok (.iconst 1, 1) := by decide +kernel
theorem dX12_end_25 : decode cX12_end 25 = .ok (.ireturn, 1) := by decide +kernel
theorem e_X12_end {X : gk_X} {F : Nat} {S : gk_S} {a : Nat} {p0 : Int32} {r : (Int32 × gk_S)} (h0 : f_X12_end F S a p0 = some r) : EvM X m_X12_end 1 0 0 [.ref a, .int p0] S (qRI r) := by
  unfold f_X12_end at h0
  refine ev_method (by decide +kernel) rfl rfl (Nat.le_of_ble_eq_true rfl) ?_
  show EvW X m_X12_end 1 0 0 0 [some (.ref a), some (.int p0)] [] S _
  refine ev_aload_n (pc := 0) (i := 0) rfl rfl rfl dX12_end_0 ?_
  refine ev_iconst (pc := 1) (v := 0) (by decide) dX12_end_1 ?_
  obtain ⟨g1, h2⟩ := qk_el h0; clear h0
  obtain ⟨S3, e4, h5⟩ := qv_el h2; clear h2
  refine yv_putI (pc := 2) fn_900 ⟨rfl, rfl⟩ (isb_el g1) e4 gw_1140 dX12_end_2 ?_
  refine ev_iload_n (pc := 5) (i := 1) rfl rfl dX12_end_5 ?_
  refine ev_if_lt (pc := 6) (tgt := 17) (by decide) dX12_end_6 (fun c6 => ?_) (fun c6 => ?_)
  · replace h5 := qi_t h5 c6
    refine ev_iconst (pc := 17) (v := 0) (by decide) dX12_end_17 ?_
    exact ev_ireturn (pc := 18) rfl rfl (qRI_eq h5) dX12_end_18
  · replace h5 := qi_f h5 c6
    refine ev_iload_n (pc := 9) (i := 1) rfl rfl dX12_end_9 ?_
    refine ev_aload_n (pc := 10) (i := 0) rfl rfl rfl dX12_end_10 ?_
    obtain ⟨x8, e9, h10⟩ := qv_el h5; clear h5
    refine xv_getIv (pc := 11) fn_902 (is_sI (isb_el g1) e4) e9 gw_1142 dX12_end_11 ?_
    refine ev_ic_le (pc := 14) (tgt := 19) (by decide) dX12_end_14 (fun c11 => ?_) (fun c11 => ?_)
    · replace h10 := qi_t h10 c11
      refine ev_aload_n (pc := 19) (i := 0) rfl rfl rfl dX12_end_19 ?_
      refine ev_iload_n (pc := 20) (i := 1) rfl rfl dX12_end_20 ?_
      obtain ⟨S13, e14, h15⟩ := qv_el h10; clear h10
      refine yv_putI (pc := 21) fn_902 ⟨rfl, rfl⟩ (is_sI (isb_el g1) e4) e14 gw_1142 dX12_end_21 ?_
      refine ev_iconst (pc := 24) (v := 1) (by decide) dX12_end_24 ?_
      exact ev_ireturn (pc := 25) rfl rfl (qRI_eq h15) dX12_end_25
    · replace h10 := qi_f h10 c11
      refine ev_iconst (pc := 17) (v := 0) (by decide) dX12_end_17 ?_
      exact ev_ireturn (pc := 18) rfl rfl (qRI_eq h10) dX12_end_18
theorem dX6_clear_0 : decode cX6_clear 0 = .ok (.aload_n 0, 1) := by decide +kernel
theorem dX6_clear_1 : decode cX6_clear 1 = .ok (.iconst 0, 1) := by decide +kernel
theorem dX6_clear_2 : decode cX6_clear 2 = .ok (.putfield 18, 3) := by decide +kernel
theorem dX6_clear_5 : decode cX6_clear 5 = .ok (.aload_n 0, 1) := by decide +kernel
theorem dX6_clear_6 : decode cX6_clear 6 = .ok (.iconst 0, 1) := by decide +kernel
theorem dX6_clear_7 : decode cX6_clear 7 = .ok (.putfield 22, 3) := by decide +kernel
theorem dX6_clear_10 : decode cX6_clear 10 = .ok (.aload_n 0, 1) := by decide +kernel
theorem dX6_clear_11 : decode cX6_clear 11 = .ok (.iconst 0, 1) := by decide +kernel
theorem dX6_clear_12 : decode cX6_clear 12 = .ok (.putfield 25, 3) := by decide +kernel
theorem dX6_clear_15 : decode cX6_clear 15 = .ok (.return_, 1) := by decide +kernel
theorem e_X6_clear {X : gk_X} {F : Nat} {S : gk_S} {a : Nat} {r : (Unit × gk_S)} (h0 : f_X6_clear F S a = some r) : EvM X m_X6_clear 1 0 0 [.ref a] S (qRU r) := by
  unfold f_X6_clear at h0
  refine ev_method (by decide +kernel) rfl rfl (Nat.le_of_ble_eq_true rfl) ?_
  show EvW X m_X6_clear 1 0 0 0 [some (.ref a)] [] S _
  refine ev_aload_n (pc := 0) (i := 0) rfl rfl rfl dX6_clear_0 ?_
  refine ev_iconst (pc := 1) (v := 0) (by decide) dX6_clear_1 ?_
  obtain ⟨g1, h2⟩ := qk_el h0; clear h0
  obtain ⟨S3, e4, h5⟩ := qv_el h2; clear h2
  refine yv_putI (pc := 2) fn_401 ⟨rfl, rfl⟩ (isb_el g1) e4 gw_91 dX6_clear_2 ?_
  refine ev_aload_n (pc := 5) (i := 0) rfl rfl rfl dX6_clear_5 ?_
  refine ev_iconst (pc := 6) (v := 0) (by decide) dX6_clear_6 ?_
  obtain ⟨S6, e7, h8⟩ := qv_el h5; clear h5
  refine yv_putI (pc := 7) fn_402 ⟨rfl, rfl⟩ (is_sI (isb_el g1) e4) e7 gw_96 dX6_clear_7 ?_
  refine ev_aload_n (pc := 10) (i := 0) rfl rfl rfl dX6_clear_10 ?_
  refine ev_iconst (pc := 11) (v := 0) (by decide) dX6_clear_11 ?_
  obtain ⟨S9, e10, h11⟩ := qv_el h8; clear h8
  refine yv_putI (pc := 12) fn_403 ⟨rfl, rfl⟩ (is_sI (is_sI (isb_el g1) e4) e7) e10 gw_101 dX6_clear_12 ?_
  exact ev_return (pc := 15) rfl (qRU_eq h11) dX6_clear_15
theorem dX9_isDigit_0 : decode cX9_isDigit 0 = .ok (.iload_n 0, 1) := by decide +kernel
theorem dX9_isDigit_1 : decode cX9_isDigit 1 = .ok (.bipush 48, 2) := by decide +kernel
theorem dX9_isDigit_3 : decode cX9_isDigit 3 = .ok (.if_icmp .lt 13, 3) := by decide +kernel
theorem dX9_isDigit_6 : decode cX9_isDigit 6 = .ok (.iload_n 0, 1) := by decide +kernel
theorem dX9_isDigit_7 : decode cX9_isDigit 7 = .ok (.bipush 57, 2) := by decide +kernel
theorem dX9_isDigit_9 : decode cX9_isDigit 9 = .ok (.if_icmp .gt 7, 3) := by decide +kernel
theorem dX9_isDigit_12 : decode cX9_isDigit 12 = .ok (.iconst 1, 1) := by decide +kernel
theorem dX9_isDigit_13 : decode cX9_isDigit 13 = .ok (.goto 4, 3) := by decide +kernel
theorem dX9_isDigit_16 : decode cX9_isDigit 16 = .ok (.iconst 0, 1) := by decide +kernel
theorem dX9_isDigit_17 : decode cX9_isDigit 17 = .ok (.ireturn, 1) := by decide +kernel
theorem e_X9_isDigit {X : gk_X} {F : Nat} {S : gk_S} {p0 : Int32} {r : (Int32 × gk_S)} (h0 : f_X9_isDigit F S p0 = some r) : EvM X m_X9_isDigit 1 0 0 [.int p0] S (qRI r) := by
  unfold f_X9_isDigit at h0
  refine ev_method (by decide +kernel) rfl rfl (Nat.le_of_ble_eq_true rfl) ?_
  show EvW X m_X9_isDigit 1 0 0 0 [some (.int p0)] [] S _
  refine ev_iload_n (pc := 0) (i := 0) rfl rfl dX9_isDigit_0 ?_
  refine ev_bipush (pc := 1) (v := 48) (by decide) dX9_isDigit_1 ?_
  refine ev_ic_lt (pc := 3) (tgt := 16) (by decide) dX9_isDigit_3 (fun c1 => ?_) (fun c1 => ?_)
  · replace h0 := qi_t h0 c1
    refine ev_iconst (pc := 16) (v := 0) (by decide) dX9_isDigit_16 ?_
    exact ev_ireturn (pc := 17) rfl rfl (qRI_eq h0) dX9_isDigit_17
  · replace h0 := qi_f h0 c1
    refine ev_iload_n (pc := 6) (i := 0) rfl rfl dX9_isDigit_6 ?_
    refine ev_bipush (pc := 7) (v := 57) (by decide) dX9_isDigit_7 ?_
    refine ev_ic_gt (pc := 9) (tgt := 16) (by decide) dX9_isDigit_9 (fun c3 => ?_) (fun c3 => ?_)
    · replace h0 := qi_t h0 c3
      refine ev_iconst (pc := 16) (v := 0) (by decide) dX9_isDigit_16 ?_
      exact ev_ireturn (pc := 17) rfl rfl (qRI_eq h0) dX9_isDigit_17
    · replace h0 := qi_f h0 c3
      refine ev_iconst (pc := 12) (v := 1) (by decide) dX9_isDigit_12 ?_
      refine ev_goto (pc := 13) (tgt := 17) (by decide) dX9_isDigit_13 ?_
      exact ev_ireturn (pc := 17) rfl rfl (qRI_eq h0) dX9_isDigit_17
theorem dX9_isLetterOrDigit_0 : decode cX9_isLetterOrDigit 0 = .ok (.iload_n 0, 1) := by decide +kernel
theorem dX9_isLetterOrDigit_1 : decode cX9_isLetterOrDigit 1 = .ok (.invokestatic 185, 3) := by decide +kernel
theorem dX9_isLetterOrDigit_4 : decode cX9_isLetterOrDigit 4 = .ok (.ifCond .ne 15, 3) := by decide +kernel
theorem dX9_isLetterOrDigit_7 : decode cX9_isLetterOrDigit 7 = .ok (.iload_n 0, 1) := by decide +kernel
theorem dX9_isLetterOrDigit_8 : decode cX9_isLetterOrDigit 8 = .ok (.bipush 97, 2) := by decide +kernel
theorem dX9_isLetterOrDigit_10 : decode cX9_isLetterOrDigit 10 = .ok (.if_icmp .lt 13, 3) := by decide +kernel
theorem dX9_isLetterOrDigit_13 : decode cX9_isLetterOrDigit 13 = .ok (.iload_n 0, 1) := by decide +kernel
theorem dX9_isLetterOrDigit_14 : decode cX9_isLetterOrDigit 14 = .ok (.bipush 122, 2) := by decide +kernel
theorem dX9_isLetterOrDigit_16 : decode cX9_isLetterOrDigit 16 = .ok (.if_icmp .gt 7, 3) := by decide +kernel
theorem dX9_isLetterOrDigit_19 : decode cX9_isLetterOrDigit 19 = .ok (.iconst 1, 1) := by decide +kernel
theorem dX9_isLetterOrDigit_20 : decode cX9_isLetterOrDigit 20 = .ok (.goto 4, 3) := by decide +kernel
theorem dX9_isLetterOrDigit_23 : decode cX9_isLetterOrDigit 23 = .ok (.iconst 0, 1) := by decide +kernel
theorem dX9_isLetterOrDigit_24 : decode cX9_isLetterOrDigit 24 = .ok (.ireturn, 1) := by decide +kernel
theorem e_X9_isLetterOrDigit {X : gk_X} {F : Nat} {S : gk_S} {p0 : Int32} {r : (Int32 × gk_S)} (h0 : f_X9_isLetterOrDigit F S p0 = some r) : EvM X m_X9_isLetterOrDigit 2 0 0 [.int p0] S (qRI r) := by
  unfold f_X9_isLetterOrDigit at h0
  refine ev_method (by decide +kernel) rfl rfl (Nat.le_of_ble_eq_true rfl) ?_
  show EvW X m_X9_isLetterOrDigit 2 0 0 0 [some (.int p0)] [] S _
  refine ev_iload_n (pc := 0) (i := 0) rfl rfl dX9_isLetterOrDigit_0 ?_
  obtain ⟨x1, S2, e3, h4⟩ := qc_el h0; clear h0
  refine xv_callS (pc := 1) (st := []) (as := [.int p0]) (v := (some (.int x1))) (S' := S2) ok_X9_isDigit (e_X9_isDigit e3) (by decide) rfl (Nat.le_of_ble_eq_true rfl) rfl gw_475 dX9_isLetterOrDigit_1 ?_
  refine ev_if_ne (pc := 4) (tgt := 19) (by decide) dX9_isLetterOrDigit_4 (fun c5 => ?_) (fun c5 => ?_)
  · replace h4 := qi_f h4 c5
    refine ev_iconst (pc := 19) (v := 1) (by decide) dX9_isLetterOrDigit_19 ?_
    refine ev_goto (pc := 20) (tgt := 24) (by decide) dX9_isLetterOrDigit_20 ?_
    exact ev_ireturn (pc := 24) rfl rfl (qRI_eq h4) dX9_isLetterOrDigit_24
  · replace h4 := qi_t h4 c5
    refine ev_iload_n (pc := 7) (i := 0) rfl rfl dX9_isLetterOrDigit_7 ?_
    refine ev_bipush (pc := 8) (v := 97) (by decide) dX9_isLetterOrDigit_8 ?_
    refine ev_ic_lt (pc := 10) (tgt := 23) (by decide) dX9_isLetterOrDigit_10 (fun c7 => ?_) (fun c7 => ?_)
    · replace h4 := qi_t h4 c7
      refine ev_iconst (pc := 23) (v := 0) (by decide) dX9_isLetterOrDigit_23 ?_
      exact ev_ireturn (pc := 24) rfl rfl (qRI_eq h4) dX9_isLetterOrDigit_24
    · replace h4 := qi_f h4 c7
      refine ev_iload_n (pc := 13) (i := 0) rfl rfl dX9_isLetterOrDigit_13 ?_
      refine ev_bipush (pc := 14) (v := 122) (by decide) dX9_isLetterOrDigit_14 ?_
      refine ev_ic_gt (pc := 16) (tgt := 23) (by decide) dX9_isLetterOrDigit_16 (fun c9 => ?_) (fun c9 => ?_)
      · replace h4 := qi_t h4 c9
        refine ev_iconst (pc := 23) (v := 0) (by decide) dX9_isLetterOrDigit_23 ?_
        exact ev_ireturn (pc := 24) rfl rfl (qRI_eq h4) dX9_isLetterOrDigit_24
      · replace h4 := qi_f h4 c9
        refine ev_iconst (pc := 19) (v := 1) (by decide) dX9_isLetterOrDigit_19 ?_
        refine ev_goto (pc := 20) (tgt := 24) (by decide) dX9_isLetterOrDigit_20 ?_
        exact ev_ireturn (pc := 24) rfl rfl (qRI_eq h4) dX9_isLetterOrDigit_24
theorem dX9_numberBetween_0 : decode cX9_numberBetween 0 = .ok (.iconst 0, 1) := by decide +kernel
theorem dX9_numberBetween_1 : decode cX9_numberBetween 1 = .ok (.istore_n 3, 1) := by decide +kernel
theorem dX9_numberBetween_2 : decode cX9_numberBetween 2 = .ok (.iload_n 1, 1) := by decide +kernel
theorem dX9_numberBetween_3 : decode cX9_numberBetween 3 = .ok (.istore 4, 2) := by decide +kernel
theorem dX9_numberBetween_5 : decode cX9_numberBetween 5 = .ok (.iload 4, 2) := by decide +kernel
theorem dX9_numberBetween_7 : decode cX9_numberBetween 7 = .ok (.iload_n 2, 1) := by decide +kernel
theorem dX9_numberBetween_8 : decode cX9_numberBetween 8 = .ok (.if_icmp .ge 27, 3) := by decide +kernel
theorem dX9_numberBetween_11 : decode cX9_numberBetween 11 = .ok (.iload_n 3, 1) := by decide +kernel
theorem dX9_numberBetween_12 : decode cX9_numberBetween 12 = .ok (.bipush 10, 2) := by decide +kernel
theorem dX9_numberBetween_14 : decode cX9_numberBetween 14 = .ok (.imul, 1) := by decide +kernel
theorem dX9_numberBetween_15 : decode cX9_numberBetween 15 = .ok (.aload_n 0, 1) := by decide +kernel
theorem dX9_numberBetween_16 : decode cX9_numberBetween 16 = .ok (.getfield 9, 3) := by decide +kernel
theorem dX9_numberBetween_19 : decode cX9_numberBetween 19 = .ok (.iload 4, 2) := by decide +kernel
theorem dX9_numberBetween_21 : decode cX9_numberBetween 21 = .ok (.invokevirtual 166, 3) := by decide +kernel
theorem dX9_numberBetween_24 : decode cX9_numberBetween 24 = .ok (.iadd, 1) := by decide +kernel
theorem dX9_numberBetween_25 : decode cX9_numberBetween 25 = .ok (.bipush 48, 2) := by decide +kernel
theorem dX9_numberBetween_27 : decode cX9_numberBetween 27 = .ok (.isub, 1) := by decide +kernel
theorem dX9_numberBetween_28 : decode cX9_numberBetween 28 = .ok (.istore_n 3, 1) := by decide +kernel
theorem dX9_numberBetween_29 : decode cX9_numberBetween 29 = .ok (.iinc 4 1, 3) := by decide +kernel
theorem dX9_numberBetween_32 : decode cX9_numberBetween 32 = .ok (.goto (-27), 3) := by decide +kernel
theorem dX9_numberBetween_35 : decode cX9_numberBetween 35 = .ok (.iload_n 3, 1) := by decide +kernel
theorem dX9_numberBetween_36 : decode cX9_numberBetween 36 = .ok (.ireturn, 1) := by decide +kernel
theorem e_X9_numberBetween_5 {X : gk_X} {F : Nat} : ∀ (n : Nat) (l0 : Nat) (l2 : Int32) (l3 : Int32) (l4 : Int32) (S : gk_S) (r : (Int32 × gk_S)), f_X9_numberBetween_5 F n l0 l2 l3 l4 S = some r → EvW X m_X9_numberBetween 2 0 0 5 [some (.ref l0), none, some (.int l2), some (.int l3), some (.int l4)] [] S (qRI r) := by
  intro n
  induction n with
  | zero => intro l0 l2 l3 l4 S r h0; rw [f_X9_numberBetween_5] at h0; cases h0
  | succ n ih =>
    intro l0 l2 l3 l4 S r h0; rw [f_X9_numberBetween_5] at h0
    refine ev_iload (pc := 5) (i := 4) rfl dX9_numberBetween_5 ?_
    refine ev_iload_n (pc := 7) (i := 2) rfl rfl dX9_numberBetween_7 ?_
    refine ev_ic_ge (pc := 8) (tgt := 35) (by decide) dX9_numberBetween_8 (fun c1 => ?_) (fun c1 => ?_)
    · replace h0 := qi_t h0 c1
      refine ev_iload_n (pc := 35) (i := 3) rfl rfl dX9_numberBetween_35 ?_
      exact ev_ireturn (pc := 36) rfl (nar_int _) (qRI_eq h0) dX9_numberBetween_36
    · replace h0 := qi_f h0 c1
      refine ev_iload_n (pc := 11) (i := 3) rfl rfl dX9_numberBetween_11 ?_
      refine ev_bipush (pc := 12) (v := 10) (by decide) dX9_numberBetween_12 ?_
      refine ev_imul (pc := 14)  dX9_numberBetween_14 ?_
      refine ev_aload_n (pc := 15) (i := 0) rfl rfl rfl dX9_numberBetween_15 ?_
      obtain ⟨g3, h4⟩ := qk_el h0; clear h0
      obtain ⟨b5, e6, h7⟩ := qP_el h4; clear h4
      refine xv_getP (pc := 16) fn_700 (isb_el g3) e6 gw_118 dX9_numberBetween_16 ?_
      refine ev_iload (pc := 19) (i := 4) rfl dX9_numberBetween_19 ?_
      obtain ⟨g8, h9⟩ := qk_el h7; clear h7
      obtain ⟨x10, S11, e12, h13⟩ := qc_el h9; clear h9
      refine xv_callV (pc := 21) (st := [.int (l3 * 10)]) (as := [.int l4]) (v := (some (.int x10))) (S' := S11) ok_X2_at (e_X2_at e12) (isb_el g8) (by decide) rfl (Nat.le_of_ble_eq_true rfl) rfl gw_468 dX9_numberBetween_21 ?_
      refine ev_iadd (pc := 24)  dX9_numberBetween_24 ?_
      refine ev_bipush (pc := 25) (v := 48) (by decide) dX9_numberBetween_25 ?_
      refine ev_isub (pc := 27)  dX9_numberBetween_27 ?_
      refine ev_istore_n (pc := 28) (L' := [some (.ref l0), none, some (.int l2), some (.int (((l3 * 10) + x10) - 48)), some (.int l4)]) (i := 3) rfl (by decide) rfl rfl dX9_numberBetween_28 ?_
      refine ev_iinc (pc := 29) (L' := [some (.ref l0), none, some (.int l2), some (.int (((l3 * 10) + x10) - 48)), some (.int (l4 + 1))]) (i := 4) (v := (l4 + 1)) rfl rfl (by decide) rfl rfl dX9_numberBetween_29 ?_
      refine ev_goto (pc := 32) (tgt := 5) (by decide) dX9_numberBetween_32 ?_
      exact (ev_weak (qL_s (qL_n (qL_s (qL_s (qL_s qL_nil))))) (ih _ _ _ _ _ _ h13))
theorem e_X9_numberBetween {X : gk_X} {F : Nat} {S : gk_S} {a : Nat} {p0 : Int32} {p1 : Int32} {r : (Int32 × gk_S)} (h0 : f_X9_numberBetween F S a p0 p1 = some r) : EvM X m_X9_numberBetween 2 0 0 [.ref a, .int p0, .int p1] S (qRI r) := by
  unfold f_X9_numberBetween at h0
  refine ev_method (by decide +kernel) rfl rfl (Nat.le_of_ble_eq_true rfl) ?_
  show EvW X m_X9_numberBetween 2 0 0 0 [some (.ref a), some (.int p0), some (.int p1), none, none] [] S _
  refine ev_iconst (pc := 0) (v := 0) (by decide) dX9_numberBetween_0 ?_
  refine ev_istore_n (pc := 1) (L' := [some (.ref a), some (.int p0), some (.int p1), some (.int 0), none]) (i := 3) rfl (by decide) rfl rfl dX9_numberBetween_1 ?_
  refine ev_iload_n (pc := 2) (i := 1) rfl rfl dX9_numberBetween_2 ?_
  refine ev_istore (pc := 3) (L' := [some (.ref a), some (.int p0), some (.int p1), some (.int 0), some (.int p0)]) (i := 4) (by decide) rfl rfl dX9_numberBetween_3 ?_
  exact ev_weak (qL_s (qL_n (qL_s (qL_s (qL_s qL_nil))))) (e_X9_numberBetween_5 F _ _ _ _ _ _ h0)
theorem dX9_groupBetween_0 : decode cX9_groupBetween 0 = .ok (.iload_n 2, 1) := by decide +kernel
theorem dX9_groupBetween_1 : decode cX9_groupBetween 1 = .ok (.iload_n 1, 1) := by decide +kernel
theorem dX9_groupBetween_2 : decode cX9_groupBetween 2 = .ok (.if_icmp .le 10, 3) := by decide +kernel
theorem dX9_groupBetween_5 : decode cX9_groupBetween 5 = .ok (.iload_n 2, 1) := by decide +kernel
theorem dX9_groupBetween_6 : decode cX9_groupBetween 6 = .ok (.iload_n 1, 1) := by decide +kernel
theorem dX9_groupBetween_7 : decode cX9_groupBetween 7 = .ok (.isub, 1) := by decide +kernel
theorem dX9_groupBetween_8 : decode cX9_groupBetween 8 = .ok (.iconst 3, 1) := by decide +kernel
theorem dX9_groupBetween_9 : decode cX9_groupBetween 9 = .ok (.if_icmp .le 5, 3) := by decide +kernel
theorem dX9_groupBetween_12 : decode cX9_groupBetween 12 = .ok (.iconst (-1), 1) := by decide +kernel
theorem dX9_groupBetween_13 : decode cX9_groupBetween 13 = .ok (.ireturn, 1) := by decide +kernel
theorem dX9_groupBetween_14 : decode cX9_groupBetween 14 = .ok (.iload_n 1, 1) := by decide +kernel
theorem dX9_groupBetween_15 : decode cX9_groupBetween 15 = .ok (.istore_n 3, 1) := by decide +kernel
theorem dX9_groupBetween_16 : decode cX9_groupBetween 16 = .ok (.iload_n 3, 1) := by decide +kernel
theorem dX9_groupBetween_17 : decode cX9_groupBetween 17 = .ok (.iload_n 2, 1) := by decide +kernel
theorem dX9_groupBetween_18 : decode cX9_groupBetween 18 = .ok (.if_icmp .ge 25, 3) := by decide +kernel
theorem dX9_groupBetween_21 : decode cX9_groupBetween 21 = .ok (.aload_n 0, 1) := by decide +kernel
theorem dX9_groupBetween_22 : decode cX9_groupBetween 22 = .ok (.getfield 9, 3) := by decide +kernel
theorem dX9_groupBetween_25 : decode cX9_groupBetween 25 = .ok (.iload_n 3, 1) := by decide +kernel
theorem dX9_groupBetween_26 : decode cX9_groupBetween 26 = .ok (.invokevirtual 166, 3) := by decide +kernel
theorem dX9_groupBetween_29 : decode cX9_groupBetween 29 = .ok (.invokestatic 185, 3) := by decide +kernel
theorem dX9_groupBetween_32 : decode cX9_groupBetween 32 = .ok (.ifCond .ne 5, 3) := by decide +kernel
theorem dX9_groupBetween_35 : decode cX9_groupBetween 35 = .ok (.iconst (-1), 1) := by decide +kernel
theorem dX9_groupBetween_36 : decode cX9_groupBetween 36 = .ok (.ireturn, 1) := by decide +kernel
theorem dX9_groupBetween_37 : decode cX9_groupBetween 37 = .ok (.iinc 3 1, 3) := by decide +kernel
theorem dX9_groupBetween_40 : decode cX9_groupBetween 40 = .ok (.goto (-24), 3) := by decide +kernel
theorem dX9_groupBetween_43 : decode cX9_groupBetween 43 = .ok (.aload_n 0, 1) := by decide +kernel
theorem dX9_groupBetween_44 : decode cX9_groupBetween 44 = .ok (.iload_n 1, 1) := by decide +kernel
theorem dX9_groupBetween_45 : decode cX9_groupBetween 45 = .ok (.iload_n 2, 1) := by decide +kernel
theorem dX9_groupBetween_46 : decode cX9_groupBetween 46 = .ok (.invokevirtual 191, 3) := by decide +kernel
theorem dX9_groupBetween_49 : decode cX9_groupBetween 49 = .ok (.istore_n 3, 1) := by decide +kernel
theorem dX9_groupBetween_50 : decode cX9_groupBetween 50 = .ok (.iload_n 3, 1) := by decide +kernel
theorem dX9_groupBetween_51 : decode cX9_groupBetween 51 = .ok (.sipush 255, 3) := by decide +kernel
theorem dX9_groupBetween_54 : decode cX9_groupBetween 54 = .ok (.if_icmp .gt 7, 3) := by decide +kernel
theorem dX9_groupBetween_57 : decode cX9_groupBetween 57 = .ok (.iload_n 3, 1) := by decide +kernel
theorem dX9_groupBetween_58 : decode cX9_groupBetween 58 = .ok (.goto 4, 3) := by decide +kernel
theorem dX9_groupBetween_61 : decode cX9_groupBetween 61 = .ok (.iconst (-1), 1) := by decide +kernel
theorem dX9_groupBetween_62 : decode cX9_groupBetween 62 = .ok (.ireturn, 1) := by decide +kernel
theorem e_X9_groupBetween_16 {X : gk_X} {F : Nat} : ∀ (n : Nat) (l0 : Nat) (l1 : Int32) (l2 : Int32) (l3 : Int32) (S : gk_S) (r : (Int32 × gk_S)), f_X9_groupBetween_16 F n l0 l1 l2 l3 S = some r → EvW X m_X9_groupBetween 3 0 0 16 [some (.ref l0), some (.int l1), some (.int l2), some (.int l3)] [] S (qRI r) := by
  intro n
  induction n with
  | zero => intro l0 l1 l2 l3 S r h0; rw [f_X9_groupBetween_16] at h0; cases h0
  | succ n ih =>
    intro l0 l1 l2 l3 S r h0; rw [f_X9_groupBetween_16] at h0
    refine ev_iload_n (pc := 16) (i := 3) rfl rfl dX9_groupBetween_16 ?_
    refine ev_iload_n (pc := 17) (i := 2) rfl rfl dX9_groupBetween_17 ?_
    refine ev_ic_ge (pc := 18) (tgt := 43) (by decide) dX9_groupBetween_18 (fun c5 => ?_) (fun c5 => ?_)
    · replace h0 := qi_t h0 c5
      refine ev_aload_n (pc := 43) (i := 0) rfl rfl rfl dX9_groupBetween_43 ?_
      refine ev_iload_n (pc := 44) (i := 1) rfl rfl dX9_groupBetween_44 ?_
      refine ev_iload_n (pc := 45) (i := 2) rfl rfl dX9_groupBetween_45 ?_
      obtain ⟨g7, h8⟩ := qk_el h0; clear h0
      obtain ⟨x9, S10, e11, h12⟩ := qc_el h8; clear h8
      refine xv_callV (pc := 46) (st := []) (as := [.int l1, .int l2]) (v := (some (.int x9))) (S' := S10) ok_X9_numberBetween (e_X9_numberBetween e11) (isb_el g7) (by decide) rfl (Nat.le_of_ble_eq_true rfl) rfl gw_490 dX9_groupBetween_46 ?_
      refine ev_istore_n (pc := 49) (L' := [some (.ref l0), some (.int l1), some (.int l2), some (.int x9)]) (i := 3) rfl (by decide) rfl rfl dX9_groupBetween_49 ?_
      refine ev_iload_n (pc := 50) (i := 3) rfl rfl dX9_groupBetween_50 ?_
      refine ev_sipush (pc := 51) (v := 255) (by decide) dX9_groupBetween_51 ?_
      refine ev_ic_gt (pc := 54) (tgt := 61) (by decide) dX9_groupBetween_54 (fun c13 => ?_) (fun c13 => ?_)
      · replace h12 := qi_t h12 c13
        refine ev_iconst (pc := 61) (v := -1) (by decide) dX9_groupBetween_61 ?_
        exact ev_ireturn (pc := 62) rfl (nar_int _) (qRI_eq h12) dX9_groupBetween_62
      · replace h12 := qi_f h12 c13
        refine ev_iload_n (pc := 57) (i := 3) rfl rfl dX9_groupBetween_57 ?_
        refine ev_goto (pc := 58) (tgt := 62) (by decide) dX9_groupBetween_58 ?_
        exact ev_ireturn (pc := 62) rfl (nar_int _) (qRI_eq h12) dX9_groupBetween_62
    · replace h0 := qi_f h0 c5
      refine ev_aload_n (pc := 21) (i := 0) rfl rfl rfl dX9_groupBetween_21 ?_
      obtain ⟨g15, h16⟩ := qk_el h0; clear h0
      obtain ⟨b17, e18, h19⟩ := qP_el h16; clear h16
      refine xv_getP (pc := 22) fn_700 (isb_el g15) e18 gw_118 dX9_groupBetween_22 ?_
      refine ev_iload_n (pc := 25) (i := 3) rfl rfl dX9_groupBetween_25 ?_
      obtain ⟨g20, h21⟩ := qk_el h19; clear h19
      obtain ⟨x22, S23, e24, h25⟩ := qc_el h21; clear h21
      refine xv_callV (pc := 26) (st := []) (as := [.int l3]) (v := (some (.int x22))) (S' := S23) ok_X2_at (e_X2_at e24) (isb_el g20) (by decide) rfl (Nat.le_of_ble_eq_true rfl) rfl gw_468 dX9_groupBetween_26 ?_
      obtain ⟨x26, S27, e28, h29⟩ := qc_el h25; clear h25
      refine xv_callS (pc := 29) (st := []) (as := [.int x22]) (v := (some (.int x26))) (S' := S27) ok_X9_isDigit (e_X9_isDigit e28) (by decide) rfl (Nat.le_of_ble_eq_true rfl) rfl gw_475 dX9_groupBetween_29 ?_
      refine ev_if_ne (pc := 32) (tgt := 37) (by decide) dX9_groupBetween_32 (fun c30 => ?_) (fun c30 => ?_)
      · replace h29 := qi_f h29 c30
        refine ev_iinc (pc := 37) (L' := [some (.ref l0), some (.int l1), some (.int l2), some (.int (l3 + 1))]) (i := 3) (v := (l3 + 1)) rfl rfl (by decide) rfl rfl dX9_groupBetween_37 ?_
        refine ev_goto (pc := 40) (tgt := 16) (by decide) dX9_groupBetween_40 ?_
        exact (ev_weak (qL_s (qL_s (qL_s (qL_s qL_nil)))) (ih _ _ _ _ _ _ h29))
      · replace h29 := qi_t h29 c30
        refine ev_iconst (pc := 35) (v := -1) (by decide) dX9_groupBetween_35 ?_
        exact ev_ireturn (pc := 36) rfl (nar_int _) (qRI_eq h29) dX9_groupBetween_36
theorem e_X9_groupBetween {X : gk_X} {F : Nat} {S : gk_S} {a : Nat} {p0 : Int32} {p1 : Int32} {r : (Int32 × gk_S)} (h0 : f_X9_groupBetween F S a p0 p1 = some r) : EvM X m_X9_groupBetween 3 0 0 [.ref a, .int p0, .int p1] S (qRI r) := by
  unfold f_X9_groupBetween at h0
  refine ev_method (by decide +kernel) rfl rfl (Nat.le_of_ble_eq_true rfl) ?_
  show EvW X m_X9_groupBetween 3 0 0 0 [some (.ref a), some (.int p0), some (.int p1), none] [] S _
  refine ev_iload_n (pc := 0) (i := 2) rfl rfl dX9_groupBetween_0 ?_
  refine ev_iload_n (pc := 1) (i := 1) rfl rfl dX9_groupBetween_1 ?_
  refine ev_ic_le (pc := 2) (tgt := 12) (by decide) dX9_groupBetween_2 (fun c1 => ?_) (fun c1 => ?_)
  · replace h0 := qi_t h0 c1
    refine ev_iconst (pc := 12) (v := -1) (by decide) dX9_groupBetween_12 ?_
    exact ev_ireturn (pc := 13) rfl (nar_int _) (qRI_eq h0) dX9_groupBetween_13
  · replace h0 := qi_f h0 c1
    refine ev_iload_n (pc := 5) (i := 2) rfl rfl dX9_groupBetween_5 ?_
    refine ev_iload_n (pc := 6) (i := 1) rfl rfl dX9_groupBetween_6 ?_
    refine ev_isub (pc := 7)  dX9_groupBetween_7 ?_
    refine ev_iconst (pc := 8) (v := 3) (by decide) dX9_groupBetween_8 ?_
    refine ev_ic_le (pc := 9) (tgt := 14) (by decide) dX9_groupBetween_9 (fun c3 => ?_) (fun c3 => ?_)
    · replace h0 := qi_t h0 c3
      refine ev_iload_n (pc := 14) (i := 1) rfl rfl dX9_groupBetween_14 ?_
      refine ev_istore_n (pc := 15) (L' := [some (.ref a), some (.int p0), some (.int p1), some (.int p0)]) (i := 3) rfl (by decide) rfl rfl dX9_groupBetween_15 ?_
      exact ev_weak (qL_s (qL_s (qL_s (qL_s qL_nil)))) (e_X9_groupBetween_16 F _ _ _ _ _ _ h0)
    · replace h0 := qi_f h0 c3
      refine ev_iconst (pc := 12) (v := -1) (by decide) dX9_groupBetween_12 ?_
      exact ev_ireturn (pc := 13) rfl (nar_int _) (qRI_eq h0) dX9_groupBetween_13
theorem dX9_readAddress_0 : decode cX9_readAddress 0 = .ok (.aload_n 0, 1) := by decide +kernel
theorem dX9_readAddress_1 : decode cX9_readAddress 1 = .ok (.getfield 28, 3) := by decide +kernel
theorem dX9_readAddress_4 : decode cX9_readAddress 4 = .ok (.aload_n 0, 1) := by decide +kernel
theorem dX9_readAddress_5 : decode cX9_readAddress 5 = .ok (.getfield 9, 3) := by decide +kernel
theorem dX9_readAddress_8 : decode cX9_readAddress 8 = .ok (.getfield 174, 3) := by decide +kernel
theorem dX9_readAddress_11 : decode cX9_readAddress 11 = .ok (.if_icmp .ge 49, 3) := by decide +kernel
theorem dX9_readAddress_14 : decode cX9_readAddress 14 = .ok (.aload_n 0, 1) := by decide +kernel
theorem dX9_readAddress_15 : decode cX9_readAddress 15 = .ok (.getfield 9, 3) := by decide +kernel
theorem dX9_readAddress_18 : decode cX9_readAddress 18 = .ok (.aload_n 0, 1) := by decide +kernel
theorem dX9_readAddress_19 : decode cX9_readAddress 19 = .ok (.getfield 28, 3) := by decide +kernel
theorem dX9_readAddress_22 : decode cX9_readAddress 22 = .ok (.invokevirtual 166, 3) := by decide +kernel
theorem dX9_readAddress_25 : decode cX9_readAddress 25 = .ok (.invokestatic 175, 3) := by decide +kernel
theorem dX9_readAddress_28 : decode cX9_readAddress 28 = .ok (.ifCond .ne 19, 3) := by decide +kernel
theorem dX9_readAddress_31 : decode cX9_readAddress 31 = .ok (.aload_n 0, 1) := by decide +kernel
theorem dX9_readAddress_32 : decode cX9_readAddress 32 = .ok (.getfield 9, 3) := by decide +kernel
theorem dX9_readAddress_35 : decode cX9_readAddress 35 = .ok (.aload_n 0, 1) := by decide +kernel
theorem dX9_readAddress_36 : decode cX9_readAddress 36 = .ok (.getfield 28, 3) := by decide +kernel
theorem dX9_readAddress_39 : decode cX9_readAddress 39 = .ok (.invokevirtual 166, 3) := by decide +kernel
theorem dX9_readAddress_42 : decode cX9_readAddress 42 = .ok (.bipush 46, 2) := by decide +kernel
theorem dX9_readAddress_44 : decode cX9_readAddress 44 = .ok (.if_icmp .ne 16, 3) := by decide +kernel
theorem dX9_readAddress_47 : decode cX9_readAddress 47 = .ok (.aload_n 0, 1) := by decide +kernel
theorem dX9_readAddress_48 : decode cX9_readAddress 48 = .ok (.dup, 1) := by decide +kernel
theorem dX9_readAddress_49 : decode cX9_readAddress 49 = .ok (.getfield 28, 3) := by decide +kernel
theorem dX9_readAddress_52 : decode cX9_readAddress 52 = .ok (.iconst 1, 1) := by decide +kernel
theorem dX9_readAddress_53 : decode cX9_readAddress 53 = .ok (.iadd, 1) := by decide +kernel
theorem dX9_readAddress_54 : decode cX9_readAddress 54 = .ok (.putfield 28, 3) := by decide +kernel
theorem dX9_readAddress_57 : decode cX9_readAddress 57 = .ok (.goto (-57), 3) := by decide +kernel
theorem dX9_readAddress_60 : decode cX9_readAddress 60 = .ok (.aload_n 0, 1) := by decide +kernel
theorem dX9_readAddress_61 : decode cX9_readAddress 61 = .ok (.sipush 260, 3) := by decide +kernel
theorem dX9_readAddress_64 : decode cX9_readAddress 64 = .ok (.putfield 22, 3) := by decide +kernel
theorem dX9_readAddress_67 : decode cX9_readAddress 67 = .ok (.iconst 0, 1) := by decide +kernel
theorem dX9_readAddress_68 : decode cX9_readAddress 68 = .ok (.istore_n 1, 1) := by decide +kernel
theorem dX9_readAddress_69 : decode cX9_readAddress 69 = .ok (.aload_n 0, 1) := by decide +kernel
theorem dX9_readAddress_70 : decode cX9_readAddress 70 = .ok (.getfield 25, 3) := by decide +kernel
theorem dX9_readAddress_73 : decode cX9_readAddress 73 = .ok (.istore_n 2, 1) := by decide +kernel
theorem dX9_readAddress_74 : decode cX9_readAddress 74 = .ok (.aload_n 0, 1) := by decide +kernel
theorem dX9_readAddress_75 : decode cX9_readAddress 75 = .ok (.getfield 25, 3) := by decide +kernel
theorem dX9_readAddress_78 : decode cX9_readAddress 78 = .ok (.istore_n 3, 1) := by decide +kernel
theorem dX9_readAddress_79 : decode cX9_readAddress 79 = .ok (.iload_n 3, 1) := by decide +kernel
theorem dX9_readAddress_80 : decode cX9_readAddress 80 = .ok (.aload_n 0, 1) := by decide +kernel
theorem dX9_readAddress_81 : decode cX9_readAddress 81 = .ok (.getfield 28, 3) := by decide +kernel
theorem dX9_readAddress_84 : decode cX9_readAddress 84 = .ok (.if_icmp .gt 73, 3) := by decide +kernel
theorem dX9_readAddress_87 : decode cX9_readAddress 87 = .ok (.iload_n 3, 1) := by decide +kernel
theorem dX9_readAddress_88 : decode cX9_readAddress 88 = .ok (.aload_n 0, 1) := by decide +kernel
theorem dX9_readAddress_89 : decode cX9_readAddress 89 = .ok (.getfield 28, 3) := by decide +kernel
theorem dX9_readAddress_92 : decode cX9_readAddress 92 = .ok (.if_icmp .eq 16, 3) := by decide +kernel
theorem dX9_readAddress_95 : decode cX9_readAddress 95 = .ok (.aload_n 0, 1) := by decide +kernel
theorem dX9_readAddress_96 : decode cX9_readAddress 96 = .ok (.getfield 9, 3) := by decide +kernel
theorem dX9_readAddress_99 : decode cX9_readAddress 99 = .ok (.iload_n 3, 1) := by decide +kernel
theorem dX9_readAddress_100 : decode cX9_readAddress 100 = .ok (.invokevirtual 166, 3) := by decide +kernel
theorem dX9_readAddress_103 : decode cX9_readAddress 103 = .ok (.bipush 46, 2) := by decide +kernel
theorem dX9_readAddress_105 : decode cX9_readAddress 105 = .ok (.if_icmp .ne 46, 3) := by decide +kernel
theorem dX9_readAddress_108 : decode cX9_readAddress 108 = .ok (.aload_n 0, 1) := by decide +kernel
theorem dX9_readAddress_109 : decode cX9_readAddress 109 = .ok (.iload_n 2, 1) := by decide +kernel
theorem dX9_readAddress_110 : decode cX9_readAddress 110 = .ok (.iload_n 3, 1) := by decide +kernel
theorem dX9_readAddress_111 : decode cX9_readAddress 111 = .ok (.invokevirtual 195, 3) := by decide +kernel
theorem dX9_readAddress_114 : decode cX9_readAddress 114 = .ok (.istore 4, 2) := by decide +kernel
theorem dX9_readAddress_116 : decode cX9_readAddress 116 = .ok (.iload 4, 2) := by decide +kernel
theorem dX9_readAddress_118 : decode cX9_readAddress 118 = .ok (.iconst (-1), 1) := by decide +kernel
theorem dX9_readAddress_119 : decode cX9_readAddress 119 = .ok (.if_icmp .eq 8, 3) := by decide +kernel
theorem dX9_readAddress_122 : decode cX9_readAddress 122 = .ok (.iload_n 1, 1) := by decide +kernel
theorem dX9_readAddress_123 : decode cX9_readAddress 123 = .ok (.iconst 4, 1) := by decide +kernel
theorem dX9_readAddress_124 : decode cX9_readAddress 124 = .ok (.if_icmp .ne 4, 3) := by decide +kernel
theorem dX9_readAddress_127 : decode cX9_readAddress 127 = .ok (.return_, 1) := by decide +kernel
theorem dX9_readAddress_128 : decode cX9_readAddress 128 = .ok (.aload_n 0, 1) := by decide +kernel
theorem dX9_readAddress_129 : decode cX9_readAddress 129 = .ok (.aload_n 0, 1) := by decide +kernel
theorem dX9_readAddress_130 : decode cX9_readAddress 130 = .ok (.getfield 31, 3) := by decide +kernel
theorem dX9_readAddress_133 : decode cX9_readAddress 133 = .ok (.ldc2_w 198, 3) := by decide +kernel
theorem dX9_readAddress_136 : decode cX9_readAddress 136 = .ok (.lmul, 1) := by decide +kernel
theorem dX9_readAddress_137 : decode cX9_readAddress 137 = .ok (.iload 4, 2) := by decide +kernel
theorem dX9_readAddress_139 : decode cX9_readAddress 139 = .ok (.i2l, 1) := by decide +kernel
theorem dX9_readAddress_140 : decode cX9_readAddress 140 = .ok (.ladd, 1) := by decide +kernel
theorem dX9_readAddress_141 : decode cX9_readAddress 141 = .ok (.putfield 31, 3) := by decide +kernel
theorem dX9_readAddress_144 : decode cX9_readAddress 144 = .ok (.iinc 1 1, 3) := by decide +kernel
theorem dX9_readAddress_147 : decode cX9_readAddress 147 = .ok (.iload_n 3, 1) := by decide +kernel
theorem dX9_readAddress_148 : decode cX9_readAddress 148 = .ok (.iconst 1, 1) := by decide +kernel
theorem dX9_readAddress_149 : decode cX9_readAddress 149 = .ok (.iadd, 1) := by decide +kernel
theorem dX9_readAddress_150 : decode cX9_readAddress 150 = .ok (.istore_n 2, 1) := by decide +kernel
theorem dX9_readAddress_151 : decode cX9_readAddress 151 = .ok (.iinc 3 1, 3) := by decide +kernel
theorem dX9_readAddress_154 : decode cX9_readAddress 154 = .ok (.goto (-75), 3) := by decide +kernel
theorem dX9_readAddress_157 : decode cX9_readAddress 157 = .ok (.iload_n 1, 1) := by decide +kernel
theorem dX9_readAddress_158 : decode cX9_readAddress 158 = .ok (.iconst 4, 1) := by decide +kernel
theorem dX9_readAddress_159 : decode cX9_readAddress 159 = .ok (.if_icmp .ne 10, 3) := by decide +kernel
theorem dX9_readAddress_162 : decode cX9_readAddress 162 = .ok (.aload_n 0, 1) := by decide +kernel
theorem dX9_readAddress_163 : decode cX9_readAddress 163 = .ok (.sipush 259, 3) := by decide +kernel
theorem dX9_readAddress_166 : decode cX9_readAddress 166 = .ok (.putfield 22, 3) := by decide +kernel
theorem dX9_readAddress_169 : decode cX9_readAddress 169 = .ok (.return_, 1) := by decide +kernel
theorem e_X9_readAddress_108 {X : gk_X} {F : Nat} {k79 : Nat → Int32 → Int32 → Int32 → gk_S → Option (Unit × gk_S)} (hk79 : ∀ (l0 : Nat) (l1 : Int32) (l2 : Int32) (l3 : Int32) (S : gk_S) (r : (Unit × gk_S)), k79 l0 l1 l2 l3 S = some r → EvW X m_X9_readAddress 4 0 0 79 [some (.ref l0), some (.int l1), some (.int l2), some (.int l3), none] [] S (qRU r)) {l0 : Nat} {l1 : Int32} {l2 : Int32} {l3 : Int32} {S : gk_S} {r : (Unit × gk_S)} (h0 : f_X9_readAddress_108 F k79 l0 l1 l2 l3 S = some r) : EvW X m_X9_readAddress 4 0 0 108 [some (.ref l0), some (.int l1), some (.int l2), some (.int l3), none] [] S (qRU r) := by
  unfold f_X9_readAddress_108 at h0
  refine ev_aload_n (pc := 108) (i := 0) rfl rfl rfl dX9_readAddress_108 ?_
  refine ev_iload_n (pc := 109) (i := 2) rfl rfl dX9_readAddress_109 ?_
  refine ev_iload_n (pc := 110) (i := 3) rfl rfl dX9_readAddress_110 ?_
  obtain ⟨g44, h45⟩ := qk_el h0; clear h0
  obtain ⟨x46, S47, e48, h49⟩ := qc_el h45; clear h45
  refine xv_callV (pc := 111) (st := []) (as := [.int l2, .int l3]) (v := (some (.int x46))) (S' := S47) ok_X9_groupBetween (e_X9_groupBetween e48) (isb_el g44) (by decide) rfl (Nat.le_of_ble_eq_true rfl) rfl gw_486 dX9_readAddress_111 ?_
  refine ev_istore (pc := 114) (L' := [some (.ref l0), some (.int l1), some (.int l2), some (.int l3), some (.int x46)]) (i := 4) (by decide) rfl rfl dX9_readAddress_114 ?_
  refine ev_iload (pc := 116) (i := 4) rfl dX9_readAddress_116 ?_
  refine ev_iconst (pc := 118) (v := -1) (by decide) dX9_readAddress_118 ?_
  refine ev_ic_eq (pc := 119) (tgt := 127) (by decide) dX9_readAddress_119 (fun c50 => ?_) (fun c50 => ?_)
  · replace h49 := qi_t h49 c50
    exact ev_return (pc := 127) rfl (qRU_eq h49) dX9_readAddress_127
  · replace h49 := qi_f h49 c50
    refine ev_iload_n (pc := 122) (i := 1) rfl rfl dX9_readAddress_122 ?_
    refine ev_iconst (pc := 123) (v := 4) (by decide) dX9_readAddress_123 ?_
    refine ev_ic_ne (pc := 124) (tgt := 128) (by decide) dX9_readAddress_124 (fun c52 => ?_) (fun c52 => ?_)
    · replace h49 := qi_f h49 c52
      refine ev_aload_n (pc := 128) (i := 0) rfl rfl rfl dX9_readAddress_128 ?_
      refine ev_aload_n (pc := 129) (i := 0) rfl rfl rfl dX9_readAddress_129 ?_
      obtain ⟨g54, h55⟩ := qk_el h49; clear h49
      obtain ⟨x56, e57, h58⟩ := qv_el h55; clear h55
      refine xv_getJv (pc := 130) fn_706 (isb_el g54) e57 gw_126 dX9_readAddress_130 ?_
      refine ev_ldc2 (pc := 133) (v := 256) gw_494 dX9_readAddress_133 ?_
      refine ev_lmul (pc := 136)  dX9_readAddress_136 ?_
      refine ev_iload (pc := 137) (i := 4) rfl dX9_readAddress_137 ?_
      refine ev_i2l (pc := 139)  dX9_readAddress_139 ?_
      refine ev_ladd (pc := 140)  dX9_readAddress_140 ?_
      obtain ⟨S59, e60, h61⟩ := qv_el h58; clear h58
      refine yv_putJ (pc := 141) fn_706 (isb_el g54) e60 gw_126 dX9_readAddress_141 ?_
      refine ev_iinc (pc := 144) (L' := [some (.ref l0), some (.int (l1 + 1)), some (.int l2), some (.int l3), some (.int x46)]) (i := 1) (v := (l1 + 1)) rfl rfl (by decide) rfl rfl dX9_readAddress_144 ?_
      refine ev_iload_n (pc := 147) (i := 3) rfl rfl dX9_readAddress_147 ?_
      refine ev_iconst (pc := 148) (v := 1) (by decide) dX9_readAddress_148 ?_
      refine ev_iadd (pc := 149)  dX9_readAddress_149 ?_
      refine ev_istore_n (pc := 150) (L' := [some (.ref l0), some (.int (l1 + 1)), some (.int (l3 + 1)), some (.int l3), some (.int x46)]) (i := 2) rfl (by decide) rfl rfl dX9_readAddress_150 ?_
      refine ev_iinc (pc := 151) (L' := [some (.ref l0), some (.int (l1 + 1)), some (.int (l3 + 1)), some (.int (l3 + 1)), some (.int x46)]) (i := 3) (v := (l3 + 1)) rfl rfl (by decide) rfl rfl dX9_readAddress_151 ?_
      refine ev_goto (pc := 154) (tgt := 79) (by decide) dX9_readAddress_154 ?_
      exact ev_weak (qL_s (qL_s (qL_s (qL_s (qL_n qL_nil))))) (hk79 _ _ _ _ _ _ h61)
    · replace h49 := qi_t h49 c52
      exact ev_return (pc := 127) rfl (qRU_eq h49) dX9_readAddress_127
theorem e_X9_readAddress_79 {X : gk_X} {F : Nat} : ∀ (n : Nat) (l0 : Nat) (l1 : Int32) (l2 : Int32) (l3 : Int32) (S : gk_S) (r : (Unit × gk_S)), f_X9_readAddress_79 F n l0 l1 l2 l3 S = some r → EvW X m_X9_readAddress 4 0 0 79 [some (.ref l0), some (.int l1), some (.int l2), some (.int l3), none] [] S (qRU r) := by
  intro n
  induction n with
  | zero => intro l0 l1 l2 l3 S r h0; rw [f_X9_readAddress_79] at h0; cases h0
  | succ n ih =>
    intro l0 l1 l2 l3 S r h0; rw [f_X9_readAddress_79] at h0
    refine ev_iload_n (pc := 79) (i := 3) rfl rfl dX9_readAddress_79 ?_
    refine ev_aload_n (pc := 80) (i := 0) rfl rfl rfl dX9_readAddress_80 ?_
    obtain ⟨g27, h28⟩ := qk_el h0; clear h0
    obtain ⟨x29, e30, h31⟩ := qv_el h28; clear h28
    refine xv_getIv (pc := 81) fn_705 (isb_el g27) e30 gw_125 dX9_readAddress_81 ?_
    refine ev_ic_gt (pc := 84) (tgt := 157) (by decide) dX9_readAddress_84 (fun c32 => ?_) (fun c32 => ?_)
    · replace h31 := qi_t h31 c32
      refine ev_iload_n (pc := 157) (i := 1) rfl rfl dX9_readAddress_157 ?_
      refine ev_iconst (pc := 158) (v := 4) (by decide) dX9_readAddress_158 ?_
      refine ev_ic_ne (pc := 159) (tgt := 169) (by decide) dX9_readAddress_159 (fun c34 => ?_) (fun c34 => ?_)
      · replace h31 := qi_f h31 c34
        exact ev_return (pc := 169) rfl (qRU_eq h31) dX9_readAddress_169
      · replace h31 := qi_t h31 c34
        refine ev_aload_n (pc := 162) (i := 0) rfl rfl rfl dX9_readAddress_162 ?_
        refine ev_sipush (pc := 163) (v := 259) (by decide) dX9_readAddress_163 ?_
        obtain ⟨S36, e37, h38⟩ := qv_el h31; clear h31
        refine yv_putI (pc := 166) fn_703 ⟨rfl, rfl⟩ (isb_el g27) e37 gw_123 dX9_readAddress_166 ?_
        exact ev_return (pc := 169) rfl (qRU_eq h38) dX9_readAddress_169
    · replace h31 := qi_f h31 c32
      refine ev_iload_n (pc := 87) (i := 3) rfl rfl dX9_readAddress_87 ?_
      refine ev_aload_n (pc := 88) (i := 0) rfl rfl rfl dX9_readAddress_88 ?_
      obtain ⟨x39, e40, h41⟩ := qv_el h31; clear h31
      refine xv_getIv (pc := 89) fn_705 (isb_el g27) e40 gw_125 dX9_readAddress_89 ?_
      refine ev_ic_eq (pc := 92) (tgt := 108) (by decide) dX9_readAddress_92 (fun c42 => ?_) (fun c42 => ?_)
      · replace h41 := qi_t h41 c42
        exact ev_weak (qL_s (qL_s (qL_s (qL_s (qL_n qL_nil))))) (e_X9_readAddress_108 ih h41)
      · replace h41 := qi_f h41 c42
        refine ev_aload_n (pc := 95) (i := 0) rfl rfl rfl dX9_readAddress_95 ?_
        obtain ⟨b62, e63, h64⟩ := qP_el h41; clear h41
        refine xv_getP (pc := 96) fn_700 (isb_el g27) e63 gw_118 dX9_readAddress_96 ?_
        refine ev_iload_n (pc := 99) (i := 3) rfl rfl dX9_readAddress_99 ?_
        obtain ⟨g65, h66⟩ := qk_el h64; clear h64
        obtain ⟨x67, S68, e69, h70⟩ := qc_el h66; clear h66
        refine xv_callV (pc := 100) (st := []) (as := [.int l3]) (v := (some (.int x67))) (S' := S68) ok_X2_at (e_X2_at e69) (isb_el g65) (by decide) rfl (Nat.le_of_ble_eq_true rfl) rfl gw_468 dX9_readAddress_100 ?_
        refine ev_bipush (pc := 103) (v := 46) (by decide) dX9_readAddress_103 ?_
        refine ev_ic_ne (pc := 105) (tgt := 151) (by decide) dX9_readAddress_105 (fun c71 => ?_) (fun c71 => ?_)
        · replace h70 := qi_f h70 c71
          refine ev_iinc (pc := 151) (L' := [some (.ref l0), some (.int l1), some (.int l2), some (.int (l3 + 1)), none]) (i := 3) (v := (l3 + 1)) rfl rfl (by decide) rfl rfl dX9_readAddress_151 ?_
          refine ev_goto (pc := 154) (tgt := 79) (by decide) dX9_readAddress_154 ?_
          exact (ev_weak (qL_s (qL_s (qL_s (qL_s (qL_n qL_nil))))) (ih _ _ _ _ _ _ h70))
        · replace h70 := qi_t h70 c71
          exact ev_weak (qL_s (qL_s (qL_s (qL_s (qL_n qL_nil))))) (e_X9_readAddress_108 ih h70)
theorem e_X9_readAddress_60 {X : gk_X} {F : Nat} {l0 : Nat} {S : gk_S} {r : (Unit × gk_S)} (h0 : f_X9_readAddress_60 F l0 S = some r) : EvW X m_X9_readAddress 4 0 0 60 [some (.ref l0), none, none, none, none] [] S (qRU r) := by
  unfold f_X9_readAddress_60 at h0
  refine ev_aload_n (pc := 60) (i := 0) rfl rfl rfl dX9_readAddress_60 ?_
  refine ev_sipush (pc := 61) (v := 260) (by decide) dX9_readAddress_61 ?_
  obtain ⟨g16, h17⟩ := qk_el h0; clear h0
  obtain ⟨S18, e19, h20⟩ := qv_el h17; clear h17
  refine yv_putI (pc := 64) fn_703 ⟨rfl, rfl⟩ (isb_el g16) e19 gw_123 dX9_readAddress_64 ?_
  refine ev_iconst (pc := 67) (v := 0) (by decide) dX9_readAddress_67 ?_
  refine ev_istore_n (pc := 68) (L' := [some (.ref l0), some (.int 0), none, none, none]) (i := 1) rfl (by decide) rfl rfl dX9_readAddress_68 ?_
  refine ev_aload_n (pc := 69) (i := 0) rfl rfl rfl dX9_readAddress_69 ?_
  obtain ⟨x21, e22, h23⟩ := qv_el h20; clear h20
  refine xv_getIv (pc := 70) fn_704 (is_sI (isb_el g16) e19) e22 gw_124 dX9_readAddress_70 ?_
  refine ev_istore_n (pc := 73) (L' := [some (.ref l0), some (.int 0), some (.int x21), none, none]) (i := 2) rfl (by decide) rfl rfl dX9_readAddress_73 ?_
  refine ev_aload_n (pc := 74) (i := 0) rfl rfl rfl dX9_readAddress_74 ?_
  obtain ⟨x24, e25, h26⟩ := qv_el h23; clear h23
  refine xv_getIv (pc := 75) fn_704 (is_sI (isb_el g16) e19) e25 gw_124 dX9_readAddress_75 ?_
  refine ev_istore_n (pc := 78) (L' := [some (.ref l0), some (.int 0), some (.int x21), some (.int x24), none]) (i := 3) rfl (by decide) rfl rfl dX9_readAddress_78 ?_
  exact ev_weak (qL_s (qL_s (qL_s (qL_s (qL_n qL_nil))))) (e_X9_readAddress_79 F _ _ _ _ _ _ h26)
theorem e_X9_readAddress_47 {X : gk_X} {F : Nat} {k0 : Nat → gk_S → Option (Unit × gk_S)} (hk0 : ∀ (l0 : Nat) (S : gk_S) (r : (Unit × gk_S)), k0 l0 S = some r → EvW X m_X9_readAddress 4 0 0 0 [some (.ref l0), none, none, none, none] [] S (qRU r)) {l0 : Nat} {S : gk_S} {r : (Unit × gk_S)} (h0 : f_X9_readAddress_47 F k0 l0 S = some r) : EvW X m_X9_readAddress 4 0 0 47 [some (.ref l0), none, none, none, none] [] S (qRU r) := by
  unfold f_X9_readAddress_47 at h0
  refine ev_aload_n (pc := 47) (i := 0) rfl rfl rfl dX9_readAddress_47 ?_
  refine ev_dup (pc := 48) (.inr rfl) dX9_readAddress_48 ?_
  obtain ⟨g91, h92⟩ := qk_el h0; clear h0
  obtain ⟨x93, e94, h95⟩ := qv_el h92; clear h92
  refine xv_getIv (pc := 49) fn_705 (isb_el g91) e94 gw_125 dX9_readAddress_49 ?_
  refine ev_iconst (pc := 52) (v := 1) (by decide) dX9_readAddress_52 ?_
  refine ev_iadd (pc := 53)  dX9_readAddress_53 ?_
  obtain ⟨S96, e97, h98⟩ := qv_el h95; clear h95
  refine yv_putI (pc := 54) fn_705 ⟨rfl, rfl⟩ (isb_el g91) e97 gw_125 dX9_readAddress_54 ?_
  refine ev_goto (pc := 57) (tgt := 0) (by decide) dX9_readAddress_57 ?_
  exact ev_weak (qL_s (qL_n (qL_n (qL_n (qL_n qL_nil))))) (hk0 _ _ _ h98)
theorem e_X9_readAddress_0 {X : gk_X} {F : Nat} : ∀ (n : Nat) (l0 : Nat) (S : gk_S) (r : (Unit × gk_S)), f_X9_readAddress_0 F n l0 S = some r → EvW X m_X9_readAddress 4 0 0 0 [some (.ref l0), none, none, none, none] [] S (qRU r) := by
  intro n
  induction n with
  | zero => intro l0 S r h0; rw [f_X9_readAddress_0] at h0; cases h0
  | succ n ih =>
    intro l0 S r h0; rw [f_X9_readAddress_0] at h0
    refine ev_aload_n (pc := 0) (i := 0) rfl rfl rfl dX9_readAddress_0 ?_
    obtain ⟨g1, h2⟩ := qk_el h0; clear h0
    obtain ⟨x3, e4, h5⟩ := qv_el h2; clear h2
    refine xv_getIv (pc := 1) fn_705 (isb_el g1) e4 gw_125 dX9_readAddress_1 ?_
    refine ev_aload_n (pc := 4) (i := 0) rfl rfl rfl dX9_readAddress_4 ?_
    obtain ⟨b6, e7, h8⟩ := qP_el h5; clear h5
    refine xv_getP (pc := 5) fn_700 (isb_el g1) e7 gw_118 dX9_readAddress_5 ?_
    obtain ⟨g9, h10⟩ := qk_el h8; clear h8
    obtain ⟨x11, e12, h13⟩ := qv_el h10; clear h10
    refine xv_getIv (pc := 8) fn_101 (isb_el g9) e12 gw_43 dX9_readAddress_8 ?_
    refine ev_ic_ge (pc := 11) (tgt := 60) (by decide) dX9_readAddress_11 (fun c14 => ?_) (fun c14 => ?_)
    · replace h13 := qi_t h13 c14
      exact ev_weak (qL_s (qL_n (qL_n (qL_n (qL_n qL_nil))))) (e_X9_readAddress_60 h13)
    · replace h13 := qi_f h13 c14
      refine ev_aload_n (pc := 14) (i := 0) rfl rfl rfl dX9_readAddress_14 ?_
      obtain ⟨b73, e74, h75⟩ := qP_el h13; clear h13
      refine xv_getP (pc := 15) fn_700 (isb_el g1) e74 gw_118 dX9_readAddress_15 ?_
      refine ev_aload_n (pc := 18) (i := 0) rfl rfl rfl dX9_readAddress_18 ?_
      obtain ⟨x76, e77, h78⟩ := qv_el h75; clear h75
      refine xv_getIv (pc := 19) fn_705 (isb_el g1) e77 gw_125 dX9_readAddress_19 ?_
      obtain ⟨g79, h80⟩ := qk_el h78; clear h78
      obtain ⟨x81, S82, e83, h84⟩ := qc_el h80; clear h80
      refine xv_callV (pc := 22) (st := []) (as := [.int x76]) (v := (some (.int x81))) (S' := S82) ok_X2_at (e_X2_at e83) (isb_el g79) (by decide) rfl (Nat.le_of_ble_eq_true rfl) rfl gw_468 dX9_readAddress_22 ?_
      obtain ⟨x85, S86, e87, h88⟩ := qc_el h84; clear h84
      refine xv_callS (pc := 25) (st := []) (as := [.int x81]) (v := (some (.int x85))) (S' := S86) ok_X9_isLetterOrDigit (e_X9_isLetterOrDigit e87) (by decide) rfl (Nat.le_of_ble_eq_true rfl) rfl gw_472 dX9_readAddress_25 ?_
      refine ev_if_ne (pc := 28) (tgt := 47) (by decide) dX9_readAddress_28 (fun c89 => ?_) (fun c89 => ?_)
      · replace h88 := qi_f h88 c89
        exact ev_weak (qL_s (qL_n (qL_n (qL_n (qL_n qL_nil))))) (e_X9_readAddress_47 ih h88)
      · replace h88 := qi_t h88 c89
        refine ev_aload_n (pc := 31) (i := 0) rfl rfl rfl dX9_readAddress_31 ?_
        obtain ⟨g99, h100⟩ := qk_el h88; clear h88
        obtain ⟨b101, e102, h103⟩ := qP_el h100; clear h100
        refine xv_getP (pc := 32) fn_700 (isb_el g99) e102 gw_118 dX9_readAddress_32 ?_
        refine ev_aload_n (pc := 35) (i := 0) rfl rfl rfl dX9_readAddress_35 ?_
        obtain ⟨x104, e105, h106⟩ := qv_el h103; clear h103
        refine xv_getIv (pc := 36) fn_705 (isb_el g99) e105 gw_125 dX9_readAddress_36 ?_
        obtain ⟨g107, h108⟩ := qk_el h106; clear h106
        obtain ⟨x109, S110, e111, h112⟩ := qc_el h108; clear h108
        refine xv_callV (pc := 39) (st := []) (as := [.int x104]) (v := (some (.int x109))) (S' := S110) ok_X2_at (e_X2_at e111) (isb_el g107) (by decide) rfl (Nat.le_of_ble_eq_true rfl) rfl gw_468 dX9_readAddress_39 ?_
        refine ev_bipush (pc := 42) (v := 46) (by decide) dX9_readAddress_42 ?_
        refine ev_ic_ne (pc := 44) (tgt := 60) (by decide) dX9_readAddress_44 (fun c113 => ?_) (fun c113 => ?_)
        · replace h112 := qi_f h112 c113
          exact ev_weak (qL_s (qL_n (qL_n (qL_n (qL_n qL_nil))))) (e_X9_readAddress_60 h112)
        · replace h112 := qi_t h112 c113
          exact ev_weak (qL_s (qL_n (qL_n (qL_n (qL_n qL_nil))))) (e_X9_readAddress_47 ih h112)
theorem e_X9_readAddress {X : gk_X} {F : Nat} {S : gk_S} {a : Nat} {r : (Unit × gk_S)} (h0 : f_X9_readAddress F S a = some r) : EvM X m_X9_readAddress 4 0 0 [.ref a] S (qRU r) := by
  unfold f_X9_readAddress at h0
  refine ev_method (by decide +kernel) rfl rfl (Nat.le_of_ble_eq_true rfl) ?_
  show EvW X m_X9_readAddress 4 0 0 0 [some (.ref a), none, none, none, none] [] S _
  exact ev_weak (qL_s (qL_n (qL_n (qL_n (qL_n qL_nil))))) (e_X9_readAddress_0 F _ _ _ h0)
