theorem dX11_placeDraft_0 : decode cX11_placeDraft 0 = .ok (.iload_n 1, 1) := by decide +kernel
theorem dX11_placeDraft_1 : decode cX11_placeDraft 1 = .ok (.ifCond .lt 30, 3) := by decide +kernel
theorem dX11_placeDraft_4 : decode cX11_placeDraft 4 = .ok (.iload_n 1, 1) := by decide +kernel
theorem dX11_placeDraft_5 : decode cX11_placeDraft 5 = .ok (.iconst 4, 1) := by decide +kernel
theorem dX11_placeDraft_6 : decode cX11_placeDraft 6 = .ok (.if_icmp .ge 25, 3) := by decide +kernel
theorem dX11_placeDraft_9 : decode cX11_placeDraft 9 = .ok (.aload_n 0, 1) := by decide +kernel
theorem dX11_placeDraft_10 : decode cX11_placeDraft 10 = .ok (.getfield 23, 3) := by decide +kernel
theorem dX11_placeDraft_13 : decode cX11_placeDraft 13 = .ok (.iload_n 1, 1) := by decide +kernel
theorem dX11_placeDraft_14 : decode cX11_placeDraft 14 = .ok (.aaload, 1) := by decide +kernel
theorem dX11_placeDraft_15 : decode cX11_placeDraft 15 = .ok (.astore_n 2, 1) := by decide +kernel
theorem dX11_placeDraft_16 : decode cX11_placeDraft 16 = .ok (.aload_n 0, 1) := by decide +kernel
theorem dX11_placeDraft_17 : decode cX11_placeDraft 17 = .ok (.getfield 23, 3) := by decide +kernel
theorem dX11_placeDraft_20 : decode cX11_placeDraft 20 = .ok (.iload_n 1, 1) := by decide +kernel
theorem dX11_placeDraft_21 : decode cX11_placeDraft 21 = .ok (.aload_n 0, 1) := by decide +kernel
theorem dX11_placeDraft_22 : decode cX11_placeDraft 22 = .ok (.getfield 28, 3) := by decide +kernel
theorem dX11_placeDraft_25 : decode cX11_placeDraft 25 = .ok (.aastore, 1) := by decide +kernel
theorem dX11_placeDraft_26 : decode cX11_placeDraft 26 = .ok (.aload_n 0, 1) := by decide +kernel
theorem dX11_placeDraft_27 : decode cX11_placeDraft 27 = .ok (.aload_n 2, 1) := by decide +kernel
theorem dX11_placeDraft_28 : decode cX11_placeDraft 28 = .ok (.putfield 28, 3) := by decide +kernel
theorem dX11_placeDraft_31 : decode cX11_placeDraft 31 = .ok (.return_, 1) := by decide +kernel
theorem e_X11_placeDraft {X : gk_X} {F : Nat} {S : gk_S} {a : Nat} {p0 : Int32} {r : (Unit × gk_S)} (h0 : f_X11_placeDraft F S a p0 = some r) : EvM X m_X11_placeDraft 1 0 0 [.ref a, .int p0] S (qRU r) := by
  unfold f_X11_placeDraft at h0
  refine ev_method (by decide +kernel) rfl rfl (Nat.le_of_ble_eq_true rfl) ?_
  show EvW X m_X11_placeDraft 1 0 0 0 [some (.ref a), some (.int p0), none] [] S _
  refine ev_iload_n (pc := 0) (i := 1) rfl rfl dX11_placeDraft_0 ?_
  refine ev_if_lt (pc := 1) (tgt := 31) (by decide) dX11_placeDraft_1 (fun c1 => ?_) (fun c1 => ?_)
  · replace h0 := qi_t h0 c1
    exact ev_return (pc := 31) rfl (qRU_eq h0) dX11_placeDraft_31
  · replace h0 := qi_f h0 c1
    refine ev_iload_n (pc := 4) (i := 1) rfl rfl dX11_placeDraft_4 ?_
    refine ev_iconst (pc := 5) (v := 4) (by decide) dX11_placeDraft_5 ?_
    refine ev_ic_ge (pc := 6) (tgt := 31) (by decide) dX11_placeDraft_6 (fun c3 => ?_) (fun c3 => ?_)
    · replace h0 := qi_t h0 c3
      exact ev_return (pc := 31) rfl (qRU_eq h0) dX11_placeDraft_31
    · replace h0 := qi_f h0 c3
      refine ev_aload_n (pc := 9) (i := 0) rfl rfl rfl dX11_placeDraft_9 ?_
      obtain ⟨g5, h6⟩ := qk_el h0; clear h0
      obtain ⟨b7, e8, h9⟩ := qP_el h6; clear h6
      refine xv_getP (pc := 10) fn_802 (isb_el g5) e8 gw_284 dX11_placeDraft_10 ?_
      refine ev_iload_n (pc := 13) (i := 1) rfl rfl dX11_placeDraft_13 ?_
      obtain ⟨g10, h11⟩ := qk_el h9; clear h9
      obtain ⟨g12, h13⟩ := qk_el h11; clear h11
      obtain ⟨b14, e15, h16⟩ := qP_el h13; clear h13
      refine yv_aald (pc := 14) (isb_el g10) (by decide) (inb_el g12) e15 dX11_placeDraft_14 ?_
      refine ev_astore_n (pc := 15) (L' := [some (.ref a), some (.int p0), some (.ref b14)]) (i := 2) rfl (by decide) rfl rfl rfl dX11_placeDraft_15 ?_
      refine ev_aload_n (pc := 16) (i := 0) rfl rfl rfl dX11_placeDraft_16 ?_
      obtain ⟨b17, e18, h19⟩ := qP_el h16; clear h16
      refine xv_getP (pc := 17) fn_802 (isb_el g5) e18 gw_284 dX11_placeDraft_17 ?_
      refine ev_iload_n (pc := 20) (i := 1) rfl rfl dX11_placeDraft_20 ?_
      refine ev_aload_n (pc := 21) (i := 0) rfl rfl rfl dX11_placeDraft_21 ?_
      obtain ⟨b20, e21, h22⟩ := qP_el h19; clear h19
      refine xv_getP (pc := 22) fn_810 (isb_el g5) e21 gw_292 dX11_placeDraft_22 ?_
      obtain ⟨g23, h24⟩ := qk_el h22; clear h22
      obtain ⟨g25, h26⟩ := qk_el h24; clear h24
      obtain ⟨g27, h28⟩ := qk_el h26; clear h26
      obtain ⟨S29, e30, h31⟩ := qv_el h28; clear h28
      refine yv_aast (pc := 25) (isb_el g23) (by decide) (isb_el g25) (inb_el g27) e30 dX11_placeDraft_25 ?_
      refine ev_aload_n (pc := 26) (i := 0) rfl rfl rfl dX11_placeDraft_26 ?_
      refine ev_aload_n (pc := 27) (i := 2) rfl rfl rfl dX11_placeDraft_27 ?_
      obtain ⟨S32, e33, h34⟩ := qv_el h31; clear h31
      refine yv_putP (pc := 28) fn_810 (is_wP (isb_el g5) e30) e33 gw_292 dX11_placeDraft_28 ?_
      exact ev_return (pc := 31) rfl (qRU_eq h34) dX11_placeDraft_31
theorem dX11_load_0 : decode cX11_load 0 = .ok (.iload_n 1, 1) := by decide +kernel
theorem dX11_load_1 : decode cX11_load 1 = .ok (.invokestatic 89, 3) := by decide +kernel
theorem dX11_load_4 : decode cX11_load 4 = .ok (.aload_n 0, 1) := by decide +kernel
theorem dX11_load_5 : decode cX11_load 5 = .ok (.getfield 37, 3) := by decide +kernel
theorem dX11_load_8 : decode cX11_load 8 = .ok (.aload_n 0, 1) := by decide +kernel
theorem dX11_load_9 : decode cX11_load 9 = .ok (.getfield 28, 3) := by decide +kernel
theorem dX11_load_12 : decode cX11_load 12 = .ok (.invokevirtual 92, 3) := by decide +kernel
theorem dX11_load_15 : decode cX11_load 15 = .ok (.istore_n 2, 1) := by decide +kernel
theorem dX11_load_16 : decode cX11_load 16 = .ok (.aload_n 0, 1) := by decide +kernel
theorem dX11_load_17 : decode cX11_load 17 = .ok (.getfield 14, 3) := by decide +kernel
theorem dX11_load_20 : decode cX11_load 20 = .ok (.iconst 0, 1) := by decide +kernel
theorem dX11_load_21 : decode cX11_load 21 = .ok (.putfield 83, 3) := by decide +kernel
theorem dX11_load_24 : decode cX11_load 24 = .ok (.aload_n 0, 1) := by decide +kernel
theorem dX11_load_25 : decode cX11_load 25 = .ok (.aload_n 0, 1) := by decide +kernel
theorem dX11_load_26 : decode cX11_load 26 = .ok (.getfield 37, 3) := by decide +kernel
theorem dX11_load_29 : decode cX11_load 29 = .ok (.getfield 96, 3) := by decide +kernel
theorem dX11_load_32 : decode cX11_load 32 = .ok (.putfield 76, 3) := by decide +kernel
theorem dX11_load_35 : decode cX11_load 35 = .ok (.iload_n 2, 1) := by decide +kernel
theorem dX11_load_36 : decode cX11_load 36 = .ok (.ifCond .ne 13, 3) := by decide +kernel
theorem dX11_load_39 : decode cX11_load 39 = .ok (.iconst (-1), 1) := by decide +kernel
theorem dX11_load_40 : decode cX11_load 40 = .ok (.aload_n 0, 1) := by decide +kernel
theorem dX11_load_41 : decode cX11_load 41 = .ok (.getfield 37, 3) := by decide +kernel
theorem dX11_load_44 : decode cX11_load 44 = .ok (.getfield 97, 3) := by decide +kernel
theorem dX11_load_47 : decode cX11_load 47 = .ok (.isub, 1) := by decide +kernel
theorem dX11_load_48 : decode cX11_load 48 = .ok (.ireturn, 1) := by decide +kernel
theorem dX11_load_49 : decode cX11_load 49 = .ok (.aload_n 0, 1) := by decide +kernel
theorem dX11_load_50 : decode cX11_load 50 = .ok (.iload_n 1, 1) := by decide +kernel
theorem dX11_load_51 : decode cX11_load 51 = .ok (.invokevirtual 100, 3) := by decide +kernel
theorem dX11_load_54 : decode cX11_load 54 = .ok (.aload_n 0, 1) := by decide +kernel
theorem dX11_load_55 : decode cX11_load 55 = .ok (.getfield 23, 3) := by decide +kernel
theorem dX11_load_58 : decode cX11_load 58 = .ok (.iload_n 1, 1) := by decide +kernel
theorem dX11_load_59 : decode cX11_load 59 = .ok (.aaload, 1) := by decide +kernel
theorem dX11_load_60 : decode cX11_load 60 = .ok (.getfield 103, 3) := by decide +kernel
theorem dX11_load_63 : decode cX11_load 63 = .ok (.ireturn, 1) := by decide +kernel
theorem e_X11_load {X : gk_X} {F : Nat} {k j : Nat} {S : gk_S} {a : Nat} {p0 : Int32} {r : ((Int32 ⊕ String) × gk_S)} (hb : qb r k j) (h0 : f_X11_load F S a p0 = some r) : EvM X m_X11_load 10 k j [.ref a, .int p0] S (qXI r) := by
  unfold f_X11_load at h0
  refine ev_method (by decide +kernel) rfl rfl (Nat.le_of_ble_eq_true rfl) ?_
  show EvW X m_X11_load 10 k j 0 [some (.ref a), some (.int p0), none] [] S _
  refine ev_iload_n (pc := 0) (i := 1) rfl rfl dX11_load_0 ?_
  rcases qx_el h0 with ⟨E5, T6, e3, z1⟩ | ⟨x1, S2, e3, h4⟩
  · subst z1
    exact xv_thrS (pc := 1) (st := []) (as := [.int p0]) ok_X11_checkList (e_X11_checkList (fun _ _ => qb_inr hb) e3) rfl rfl (by decide) (Nat.le_refl _) (Nat.le_refl _) rfl (Nat.le_of_ble_eq_true rfl) rfl gw_386 dX11_load_1
  clear h0
  refine xv_callS (pc := 1) (st := []) (as := [.int p0]) (v := none) (S' := S2) ok_X11_checkList (e_X11_checkList (k := 0) (j := 0) qb_inl e3) (by decide) rfl (Nat.le_of_ble_eq_true rfl) rfl gw_386 dX11_load_1 ?_
  refine ev_aload_n (pc := 4) (i := 0) rfl rfl rfl dX11_load_4 ?_
  obtain ⟨g7, h8⟩ := qk_el h4; clear h4
  obtain ⟨b9, e10, h11⟩ := qP_el h8; clear h8
  refine xv_getP (pc := 5) fn_803 (isb_el g7) e10 gw_285 dX11_load_5 ?_
  refine ev_aload_n (pc := 8) (i := 0) rfl rfl rfl dX11_load_8 ?_
  obtain ⟨b12, e13, h14⟩ := qP_el h11; clear h11
  refine xv_getP (pc := 9) fn_810 (isb_el g7) e13 gw_292 dX11_load_9 ?_
  obtain ⟨g15, h16⟩ := qk_el h14; clear h14
  obtain ⟨x17, S18, e19, h20⟩ := qc_el h16; clear h16
  refine xv_callV (pc := 12) (st := []) (as := [.ref b12]) (v := (some (.int x17))) (S' := S18) ok_X9_read (e_X9_read e19) (isb_el g15) (by decide) rfl (Nat.le_of_ble_eq_true rfl) rfl gw_456 dX11_load_12 ?_
  refine ev_istore_n (pc := 15) (L' := [some (.ref a), some (.int p0), some (.int x17)]) (i := 2) rfl (by decide) rfl rfl dX11_load_15 ?_
  refine ev_aload_n (pc := 16) (i := 0) rfl rfl rfl dX11_load_16 ?_
  obtain ⟨g21, h22⟩ := qk_el h20; clear h20
  obtain ⟨b23, e24, h25⟩ := qP_el h22; clear h22
  refine xv_getP (pc := 17) fn_800 (isb_el g21) e24 gw_282 dX11_load_17 ?_
  refine ev_iconst (pc := 20) (v := 0) (by decide) dX11_load_20 ?_
  obtain ⟨g26, h27⟩ := qk_el h25; clear h25
  obtain ⟨S28, e29, h30⟩ := qv_el h27; clear h27
  refine yv_putI (pc := 21) fn_101 ⟨rfl, rfl⟩ (isb_el g26) e29 gw_42 dX11_load_21 ?_
  refine ev_aload_n (pc := 24) (i := 0) rfl rfl rfl dX11_load_24 ?_
  refine ev_aload_n (pc := 25) (i := 0) rfl rfl rfl dX11_load_25 ?_
  obtain ⟨b31, e32, h33⟩ := qP_el h30; clear h30
  refine xv_getP (pc := 26) fn_803 (is_sI (isb_el g21) e29) e32 gw_285 dX11_load_26 ?_
  obtain ⟨g34, h35⟩ := qk_el h33; clear h33
  obtain ⟨x36, e37, h38⟩ := qv_el h35; clear h35
  refine xv_getIv (pc := 29) fn_701 (isb_el g34) e37 gw_120 dX11_load_29 ?_
  obtain ⟨S39, e40, h41⟩ := qv_el h38; clear h38
  refine yv_putI (pc := 32) fn_812 ⟨rfl, rfl⟩ (is_sI (isb_el g21) e29) e40 gw_294 dX11_load_32 ?_
  refine ev_iload_n (pc := 35) (i := 2) rfl rfl dX11_load_35 ?_
  refine ev_if_ne (pc := 36) (tgt := 49) (by decide) dX11_load_36 (fun c42 => ?_) (fun c42 => ?_)
  · replace h41 := qi_f h41 c42
    refine ev_aload_n (pc := 49) (i := 0) rfl rfl rfl dX11_load_49 ?_
    refine ev_iload_n (pc := 50) (i := 1) rfl rfl dX11_load_50 ?_
    obtain ⟨x44, S45, e46, h47⟩ := qc_el h41; clear h41
    refine xv_callV (pc := 51) (st := []) (as := [.int p0]) (v := none) (S' := S45) ok_X11_placeDraft (e_X11_placeDraft e46) (is_sI (is_sI (isb_el g21) e29) e40) (by decide) rfl (Nat.le_of_ble_eq_true rfl) rfl gw_658 dX11_load_51 ?_
    refine ev_aload_n (pc := 54) (i := 0) rfl rfl rfl dX11_load_54 ?_
    obtain ⟨g48, h49⟩ := qk_el h47; clear h47
    obtain ⟨b50, e51, h52⟩ := qP_el h49; clear h49
    refine xv_getP (pc := 55) fn_802 (isb_el g48) e51 gw_284 dX11_load_55 ?_
    refine ev_iload_n (pc := 58) (i := 1) rfl rfl dX11_load_58 ?_
    obtain ⟨g53, h54⟩ := qk_el h52; clear h52
    obtain ⟨g55, h56⟩ := qk_el h54; clear h54
    obtain ⟨b57, e58, h59⟩ := qP_el h56; clear h56
    refine yv_aald (pc := 59) (isb_el g53) (by decide) (inb_el g55) e58 dX11_load_59 ?_
    obtain ⟨g60, h61⟩ := qk_el h59; clear h59
    obtain ⟨x62, e63, h64⟩ := qv_el h61; clear h61
    refine xv_getIv (pc := 60) fn_401 (isb_el g60) e63 gw_95 dX11_load_60 ?_
    cases h64
    exact ev_ireturn (pc := 63) rfl (nar_int _) rfl dX11_load_63
  · replace h41 := qi_t h41 c42
    refine ev_iconst (pc := 39) (v := -1) (by decide) dX11_load_39 ?_
    refine ev_aload_n (pc := 40) (i := 0) rfl rfl rfl dX11_load_40 ?_
    obtain ⟨b65, e66, h67⟩ := qP_el h41; clear h41
    refine xv_getP (pc := 41) fn_803 (is_sI (is_sI (isb_el g21) e29) e40) e66 gw_285 dX11_load_41 ?_
    obtain ⟨g68, h69⟩ := qk_el h67; clear h67
    obtain ⟨x70, e71, h72⟩ := qv_el h69; clear h69
    refine xv_getIv (pc := 44) fn_702 (isb_el g68) e71 gw_122 dX11_load_44 ?_
    refine ev_isub (pc := 47)  dX11_load_47 ?_
    cases h72
    exact ev_ireturn (pc := 48) rfl (nar_int _) rfl dX11_load_48
theorem dL_load_0 : decode cL_load 0 = .ok (.aload_n 2, 1) := by decide +kernel
theorem dL_load_1 : decode cL_load 1 = .ok (.iconst 0, 1) := by decide +kernel
theorem dL_load_2 : decode cL_load 2 = .ok (.aload_n 0, 1) := by decide +kernel
theorem dL_load_3 : decode cL_load 3 = .ok (.iload_n 1, 1) := by decide +kernel
theorem dL_load_4 : decode cL_load 4 = .ok (.invokevirtual 7, 3) := by decide +kernel
theorem dL_load_7 : decode cL_load 7 = .ok (.i2l, 1) := by decide +kernel
theorem dL_load_8 : decode cL_load 8 = .ok (.lastore, 1) := by decide +kernel
theorem dL_load_9 : decode cL_load 9 = .ok (.goto 6, 3) := by decide +kernel
theorem dL_load_12 : decode cL_load 12 = .ok (.astore_n 3, 1) := by decide +kernel
theorem dL_load_13 : decode cL_load 13 = .ok (.iconst 1, 1) := by decide +kernel
theorem dL_load_14 : decode cL_load 14 = .ok (.ireturn, 1) := by decide +kernel
theorem dL_load_15 : decode cL_load 15 = .ok (.iconst 0, 1) := by decide +kernel
theorem dL_load_16 : decode cL_load 16 = .ok (.ireturn, 1) := by decide +kernel
theorem e_L_load {X : gk_X} {F : Nat} {k j : Nat} {S : gk_S} {p0 : Nat} {p1 : Int32} {p2 : Nat} {r : (Int32 × gk_S)} (hb : r.1 = 0 ∨ (1 ≤ k ∧ 6 ≤ j)) (h0 : f_L_load F S p0 p1 p2 = some r) : EvM X m_L_load 11 k j [.ref p0, .int p1, .ref p2] S (qRI r) := by
  unfold f_L_load at h0
  refine ev_methodH (by decide +kernel) (by decide) rfl (Nat.le_of_ble_eq_true rfl) ?_
  show EvW X m_L_load 11 k j 0 [some (.ref p0), some (.int p1), some (.ref p2), none] [] S _
  refine ev_aload_n (pc := 0) (i := 2) rfl rfl rfl dL_load_0 ?_
  refine ev_iconst (pc := 1) (v := 0) (by decide) dL_load_1 ?_
  refine ev_aload_n (pc := 2) (i := 0) rfl rfl rfl dL_load_2 ?_
  refine ev_iload_n (pc := 3) (i := 1) rfl rfl dL_load_3 ?_
  obtain ⟨g1, h2⟩ := qk_el h0; clear h0
  rcases qh_el h2 with ⟨E7, T8, e5, h6⟩ | ⟨x3, S4, e5, h6⟩
  · by_cases c9 : E7 = gx_I
    · replace h6 := qi_t h6 c9; subst c9
      have hb9 : 1 ≤ k ∧ 6 ≤ j := by cases h6; exact hb.resolve_left (show ¬ (1 : Int32) = 0 by decide)
      refine yv_catV (pc := 4) (st := [.int 0, .ref p2]) (as := [.int p1]) (i9 := 3) (len9 := 1) (pre := []) (suf := []) (x := (0, 9, 12, 13)) (name := "java/lang/IndexOutOfBoundsException") ok_X11_load (e_X11_load (k := k) (j := j) (fun _ _ => hb9) e5) (isb_el g1) rfl (by intro z hz; cases hz) (by decide) (by decide) (by decide) gw_381 (by decide +kernel) (.inr ⟨3, rfl, rfl, rfl⟩) (by decide) rfl (gl9 rfl) (by decide) rfl (Nat.le_of_ble_eq_true rfl) rfl gw_382 dL_load_4 dL_load_12 ?_
      refine ev_iconst (pc := 13) (v := 1) (by decide) dL_load_13 ?_
      exact ev_ireturn (pc := 14) rfl rfl (by cases h6; rfl) dL_load_14
    replace h6 := qi_f h6 c9
    cases h6
  clear h2
  refine xv_callV (pc := 4) (st := [.int 0, .ref p2]) (as := [.int p1]) (v := (some (.int x3))) (S' := S4) ok_X11_load (e_X11_load (k := 0) (j := 0) qb_inl e5) (isb_el g1) (by decide) rfl (Nat.le_of_ble_eq_true rfl) rfl gw_382 dL_load_4 ?_
  refine ev_i2l (pc := 7)  dL_load_7 ?_
  obtain ⟨g10, h11⟩ := qk_el h6; clear h6
  obtain ⟨g12, h13⟩ := qk_el h11; clear h11
  obtain ⟨S14, e15, h16⟩ := qv_el h13; clear h13
  refine yv_last (pc := 8) (isb_el g10) (inb_el g12) e15 dL_load_8 ?_
  refine ev_goto (pc := 9) (tgt := 15) (by decide) dL_load_9 ?_
  refine ev_iconst (pc := 15) (v := 0) (by decide) dL_load_15 ?_
  exact ev_ireturn (pc := 16) rfl (nar_int _) (qRI_eq h16) dL_load_16
theorem dX12_throwsIf_0 : decode cX12_throwsIf 0 = .ok (.aload_n 0, 1) := by decide +kernel
theorem dX12_throwsIf_1 : decode cX12_throwsIf 1 = .ok (.iload_n 1, 1) := by decide +kernel
theorem dX12_throwsIf_2 : decode cX12_throwsIf 2 = .ok (.ifCond .eq 7, 3) := by decide +kernel
theorem dX12_throwsIf_5 : decode cX12_throwsIf 5 = .ok (.iload_n 2, 1) := by decide +kernel
theorem dX12_throwsIf_6 : decode cX12_throwsIf 6 = .ok (.goto 4, 3) := by decide +kernel
theorem dX12_throwsIf_9 : decode cX12_throwsIf 9 = .ok (.iconst 0, 1) := by decide +kernel
theorem dX12_throwsIf_10 : decode cX12_throwsIf 10 = .ok (.putfield 1, 3) := by decide +kernel
theorem dX12_throwsIf_13 : decode cX12_throwsIf 13 = .ok (.iload_n 1, 1) := by decide +kernel
theorem dX12_throwsIf_14 : decode cX12_throwsIf 14 = .ok (.ireturn, 1) := by decide +kernel
theorem e_X12_throwsIf {X : gk_X} {F : Nat} {S : gk_S} {a : Nat} {p0 : Int32} {p1 : Int32} {r : (Int32 × gk_S)} (h0 : f_X12_throwsIf F S a p0 p1 = some r) : EvM X m_X12_throwsIf 1 0 0 [.ref a, .int p0, .int p1] S (qRI r) := by
  unfold f_X12_throwsIf at h0
  refine ev_method (by decide +kernel) rfl rfl (Nat.le_of_ble_eq_true rfl) ?_
  show EvW X m_X12_throwsIf 1 0 0 0 [some (.ref a), some (.int p0), some (.int p1)] [] S _
  refine ev_aload_n (pc := 0) (i := 0) rfl rfl rfl dX12_throwsIf_0 ?_
  refine ev_iload_n (pc := 1) (i := 1) rfl rfl dX12_throwsIf_1 ?_
  refine ev_if_eq (pc := 2) (tgt := 9) (by decide) dX12_throwsIf_2 (fun c1 => ?_) (fun c1 => ?_)
  · replace h0 := qi_t h0 c1
    refine ev_iconst (pc := 9) (v := 0) (by decide) dX12_throwsIf_9 ?_
    obtain ⟨g3, h4⟩ := qk_el h0; clear h0
    obtain ⟨S5, e6, h7⟩ := qv_el h4; clear h4
    refine yv_putI (pc := 10) fn_900 ⟨rfl, rfl⟩ (isb_el g3) e6 gw_1140 dX12_throwsIf_10 ?_
    refine ev_iload_n (pc := 13) (i := 1) rfl rfl dX12_throwsIf_13 ?_
    obtain ⟨g8, h9⟩ := qk_el h7; clear h7
    exact ev_ireturn (pc := 14) rfl (zb_nar g8) (qRI_eq h9) dX12_throwsIf_14
  · replace h0 := qi_f h0 c1
    refine ev_iload_n (pc := 5) (i := 2) rfl rfl dX12_throwsIf_5 ?_
    refine ev_goto (pc := 6) (tgt := 10) (by decide) dX12_throwsIf_6 ?_
    obtain ⟨g10, h11⟩ := qk_el h0; clear h0
    obtain ⟨S12, e13, h14⟩ := qv_el h11; clear h11
    refine yv_putI (pc := 10) fn_900 ⟨rfl, rfl⟩ (isb_el g10) e13 gw_1140 dX12_throwsIf_10 ?_
    refine ev_iload_n (pc := 13) (i := 1) rfl rfl dX12_throwsIf_13 ?_
    obtain ⟨g15, h16⟩ := qk_el h14; clear h14
    exact ev_ireturn (pc := 14) rfl (zb_nar g15) (qRI_eq h16) dX12_throwsIf_14
theorem dX12_byteAt_0 : decode cX12_byteAt 0 = .ok (.iload_n 1, 1) := by decide +kernel
theorem dX12_byteAt_1 : decode cX12_byteAt 1 = .ok (.aload_n 0, 1) := by decide +kernel
theorem dX12_byteAt_2 : decode cX12_byteAt 2 = .ok (.getfield 18, 3) := by decide +kernel
theorem dX12_byteAt_5 : decode cX12_byteAt 5 = .ok (.if_icmp .ge 16, 3) := by decide +kernel
theorem dX12_byteAt_8 : decode cX12_byteAt 8 = .ok (.aload_n 0, 1) := by decide +kernel
theorem dX12_byteAt_9 : decode cX12_byteAt 9 = .ok (.getfield 14, 3) := by decide +kernel
theorem dX12_byteAt_12 : decode cX12_byteAt 12 = .ok (.iload_n 1, 1) := by decide +kernel
theorem dX12_byteAt_13 : decode cX12_byteAt 13 = .ok (.baload, 1) := by decide +kernel
theorem dX12_byteAt_14 : decode cX12_byteAt 14 = .ok (.sipush 255, 3) := by decide +kernel
theorem dX12_byteAt_17 : decode cX12_byteAt 17 = .ok (.iand, 1) := by decide +kernel
theorem dX12_byteAt_18 : decode cX12_byteAt 18 = .ok (.goto 4, 3) := by decide +kernel
theorem dX12_byteAt_21 : decode cX12_byteAt 21 = .ok (.iconst (-1), 1) := by decide +kernel
theorem dX12_byteAt_22 : decode cX12_byteAt 22 = .ok (.ireturn, 1) := by decide +kernel
theorem e_X12_byteAt {X : gk_X} {F : Nat} {S : gk_S} {a : Nat} {p0 : Int32} {r : (Int32 × gk_S)} (h0 : f_X12_byteAt F S a p0 = some r) : EvM X m_X12_byteAt 1 0 0 [.ref a, .int p0] S (qRI r) := by
  unfold f_X12_byteAt at h0
  refine ev_method (by decide +kernel) rfl rfl (Nat.le_of_ble_eq_true rfl) ?_
  show EvW X m_X12_byteAt 1 0 0 0 [some (.ref a), some (.int p0)] [] S _
  refine ev_iload_n (pc := 0) (i := 1) rfl rfl dX12_byteAt_0 ?_
  refine ev_aload_n (pc := 1) (i := 0) rfl rfl rfl dX12_byteAt_1 ?_
  obtain ⟨g1, h2⟩ := qk_el h0; clear h0
  obtain ⟨x3, e4, h5⟩ := qv_el h2; clear h2
  refine xv_getIv (pc := 2) fn_903 (isb_el g1) e4 gw_1143 dX12_byteAt_2 ?_
  refine ev_ic_ge (pc := 5) (tgt := 21) (by decide) dX12_byteAt_5 (fun c6 => ?_) (fun c6 => ?_)
  · replace h5 := qi_t h5 c6
    refine ev_iconst (pc := 21) (v := -1) (by decide) dX12_byteAt_21 ?_
    exact ev_ireturn (pc := 22) rfl (nar_int _) (qRI_eq h5) dX12_byteAt_22
  · replace h5 := qi_f h5 c6
    refine ev_aload_n (pc := 8) (i := 0) rfl rfl rfl dX12_byteAt_8 ?_
    obtain ⟨b8, e9, h10⟩ := qP_el h5; clear h5
    refine xv_getP (pc := 9) fn_901 (isb_el g1) e9 gw_1141 dX12_byteAt_9 ?_
    refine ev_iload_n (pc := 12) (i := 1) rfl rfl dX12_byteAt_12 ?_
    obtain ⟨g11, h12⟩ := qk_el h10; clear h10
    obtain ⟨g13, h14⟩ := qk_el h12; clear h12
    obtain ⟨x15, e16, h17⟩ := qv_el h14; clear h14
    refine yv_bald (pc := 13) (isb_el g11) (inb_el g13) e16 dX12_byteAt_13 ?_
    refine ev_sipush (pc := 14) (v := 255) (by decide) dX12_byteAt_14 ?_
    refine ev_iand (pc := 17)  dX12_byteAt_17 ?_
    refine ev_goto (pc := 18) (tgt := 22) (by decide) dX12_byteAt_18 ?_
    exact ev_ireturn (pc := 22) rfl (nar_int _) (qRI_eq h17) dX12_byteAt_22
theorem dX12_isSmall_0 : decode cX12_isSmall 0 = .ok (.iload_n 0, 1) := by decide +kernel
theorem dX12_isSmall_1 : decode cX12_isSmall 1 = .ok (.bipush 97, 2) := by decide +kernel
theorem dX12_isSmall_3 : decode cX12_isSmall 3 = .ok (.if_icmp .lt 13, 3) := by decide +kernel
theorem dX12_isSmall_6 : decode cX12_isSmall 6 = .ok (.iload_n 0, 1) := by decide +kernel
theorem dX12_isSmall_7 : decode cX12_isSmall 7 = .ok (.bipush 122, 2) := by decide +kernel
theorem dX12_isSmall_9 : decode cX12_isSmall 9 = .ok (.if_icmp .gt 7, 3) := by decide +kernel
theorem dX12_isSmall_12 : decode cX12_isSmall 12 = .ok (.iconst 1, 1) := by decide +kernel
theorem dX12_isSmall_13 : decode cX12_isSmall 13 = .ok (.goto 4, 3) := by decide +kernel
theorem dX12_isSmall_16 : decode cX12_isSmall 16 = .ok (.iconst 0, 1) := by decide +kernel
theorem dX12_isSmall_17 : decode cX12_isSmall 17 = .ok (.ireturn, 1) := by decide +kernel
theorem e_X12_isSmall {X : gk_X} {F : Nat} {S : gk_S} {p0 : Int32} {r : (Int32 × gk_S)} (h0 : f_X12_isSmall F S p0 = some r) : EvM X m_X12_isSmall 1 0 0 [.int p0] S (qRI r) := by
  unfold f_X12_isSmall at h0
  refine ev_method (by decide +kernel) rfl rfl (Nat.le_of_ble_eq_true rfl) ?_
  show EvW X m_X12_isSmall 1 0 0 0 [some (.int p0)] [] S _
  refine ev_iload_n (pc := 0) (i := 0) rfl rfl dX12_isSmall_0 ?_
  refine ev_bipush (pc := 1) (v := 97) (by decide) dX12_isSmall_1 ?_
  refine ev_ic_lt (pc := 3) (tgt := 16) (by decide) dX12_isSmall_3 (fun c1 => ?_) (fun c1 => ?_)
  · replace h0 := qi_t h0 c1
    refine ev_iconst (pc := 16) (v := 0) (by decide) dX12_isSmall_16 ?_
    exact ev_ireturn (pc := 17) rfl rfl (qRI_eq h0) dX12_isSmall_17
  · replace h0 := qi_f h0 c1
    refine ev_iload_n (pc := 6) (i := 0) rfl rfl dX12_isSmall_6 ?_
    refine ev_bipush (pc := 7) (v := 122) (by decide) dX12_isSmall_7 ?_
    refine ev_ic_gt (pc := 9) (tgt := 16) (by decide) dX12_isSmall_9 (fun c3 => ?_) (fun c3 => ?_)
    · replace h0 := qi_t h0 c3
      refine ev_iconst (pc := 16) (v := 0) (by decide) dX12_isSmall_16 ?_
      exact ev_ireturn (pc := 17) rfl rfl (qRI_eq h0) dX12_isSmall_17
    · replace h0 := qi_f h0 c3
      refine ev_iconst (pc := 12) (v := 1) (by decide) dX12_isSmall_12 ?_
      refine ev_goto (pc := 13) (tgt := 17) (by decide) dX12_isSmall_13 ?_
      exact ev_ireturn (pc := 17) rfl rfl (qRI_eq h0) dX12_isSmall_17
theorem dX12_isDigit_0 : decode cX12_isDigit 0 = .ok (.iload_n 0, 1) := by decide +kernel
theorem dX12_isDigit_1 : decode cX12_isDigit 1 = .ok (.bipush 48, 2) := by decide +kernel
theorem dX12_isDigit_3 : decode cX12_isDigit 3 = .ok (.if_icmp .lt 13, 3) := by decide +kernel
theorem dX12_isDigit_6 : decode cX12_isDigit 6 = .ok (.iload_n 0, 1) := by decide +kernel
theorem dX12_isDigit_7 : decode cX12_isDigit 7 = .ok (.bipush 57, 2) := by decide +kernel
theorem dX12_isDigit_9 : decode cX12_isDigit 9 = .ok (.if_icmp .gt 7, 3) := by decide +kernel
theorem dX12_isDigit_12 : decode cX12_isDigit 12 = .ok (.iconst 1, 1) := by decide +kernel
theorem dX12_isDigit_13 : decode cX12_isDigit 13 = .ok (.goto 4, 3) := by decide +kernel
theorem dX12_isDigit_16 : decode cX12_isDigit 16 = .ok (.iconst 0, 1) := by decide +kernel
theorem dX12_isDigit_17 : decode cX12_isDigit 17 = .ok (.ireturn, 1) := by decide +kernel
theorem e_X12_isDigit {X : gk_X} {F : Nat} {S : gk_S} {p0 : Int32} {r : (Int32 × gk_S)} (h0 : f_X12_isDigit F S p0 = some r) : EvM X m_X12_isDigit 1 0 0 [.int p0] S (qRI r) := by
  unfold f_X12_isDigit at h0
  refine ev_method (by decide +kernel) rfl rfl (Nat.le_of_ble_eq_true rfl) ?_
  show EvW X m_X12_isDigit 1 0 0 0 [some (.int p0)] [] S _
  refine ev_iload_n (pc := 0) (i := 0) rfl rfl dX12_isDigit_0 ?_
  refine ev_bipush (pc := 1) (v := 48) (by decide) dX12_isDigit_1 ?_
  refine ev_ic_lt (pc := 3) (tgt := 16) (by decide) dX12_isDigit_3 (fun c1 => ?_) (fun c1 => ?_)
  · replace h0 := qi_t h0 c1
    refine ev_iconst (pc := 16) (v := 0) (by decide) dX12_isDigit_16 ?_
    exact ev_ireturn (pc := 17) rfl rfl (qRI_eq h0) dX12_isDigit_17
  · replace h0 := qi_f h0 c1
    refine ev_iload_n (pc := 6) (i := 0) rfl rfl dX12_isDigit_6 ?_
    refine ev_bipush (pc := 7) (v := 57) (by decide) dX12_isDigit_7 ?_
    refine ev_ic_gt (pc := 9) (tgt := 16) (by decide) dX12_isDigit_9 (fun c3 => ?_) (fun c3 => ?_)
    · replace h0 := qi_t h0 c3
      refine ev_iconst (pc := 16) (v := 0) (by decide) dX12_isDigit_16 ?_
      exact ev_ireturn (pc := 17) rfl rfl (qRI_eq h0) dX12_isDigit_17
    · replace h0 := qi_f h0 c3
      refine ev_iconst (pc := 12) (v := 1) (by decide) dX12_isDigit_12 ?_
      refine ev_goto (pc := 13) (tgt := 17) (by decide) dX12_isDigit_13 ?_
      exact ev_ireturn (pc := 17) rfl rfl (qRI_eq h0) dX12_isDigit_17
theorem dX12_isAt_0 : decode cX12_isAt 0 = .ok (.iconst 0, 1) := by decide +kernel
theorem dX12_isAt_1 : decode cX12_isAt 1 = .ok (.istore_n 3, 1) := by decide +kernel
theorem dX12_isAt_2 : decode cX12_isAt 2 = .ok (.iload_n 3, 1) := by decide +kernel
theorem dX12_isAt_3 : decode cX12_isAt 3 = .ok (.aload_n 0, 1) := by decide +kernel
theorem dX12_isAt_4 : decode cX12_isAt 4 = .ok (.getfield 65, 3) := by decide +kernel
theorem dX12_isAt_7 : decode cX12_isAt 7 = .ok (.iload_n 1, 1) := by decide +kernel
theorem dX12_isAt_8 : decode cX12_isAt 8 = .ok (.iaload, 1) := by decide +kernel
theorem dX12_isAt_9 : decode cX12_isAt 9 = .ok (.if_icmp .ge 35, 3) := by decide +kernel
theorem dX12_isAt_12 : decode cX12_isAt 12 = .ok (.ldc 99, 2) := by decide +kernel
theorem dX12_isAt_14 : decode cX12_isAt 14 = .ok (.aload_n 0, 1) := by decide +kernel
theorem dX12_isAt_15 : decode cX12_isAt 15 = .ok (.getfield 62, 3) := by decide +kernel
theorem dX12_isAt_18 : decode cX12_isAt 18 = .ok (.iload_n 1, 1) := by decide +kernel
theorem dX12_isAt_19 : decode cX12_isAt 19 = .ok (.iaload, 1) := by decide +kernel
theorem dX12_isAt_20 : decode cX12_isAt 20 = .ok (.iload_n 3, 1) := by decide +kernel
theorem dX12_isAt_21 : decode cX12_isAt 21 = .ok (.iadd, 1) := by decide +kernel
theorem dX12_isAt_22 : decode cX12_isAt 22 = .ok (.invokevirtual 106, 3) := by decide +kernel
theorem dX12_isAt_25 : decode cX12_isAt 25 = .ok (.aload_n 0, 1) := by decide +kernel
theorem dX12_isAt_26 : decode cX12_isAt 26 = .ok (.getfield 14, 3) := by decide +kernel
theorem dX12_isAt_29 : decode cX12_isAt 29 = .ok (.iload_n 2, 1) := by decide +kernel
theorem dX12_isAt_30 : decode cX12_isAt 30 = .ok (.iload_n 3, 1) := by decide +kernel
theorem dX12_isAt_31 : decode cX12_isAt 31 = .ok (.iadd, 1) := by decide +kernel
theorem dX12_isAt_32 : decode cX12_isAt 32 = .ok (.baload, 1) := by decide +kernel
theorem dX12_isAt_33 : decode cX12_isAt 33 = .ok (.if_icmp .eq 5, 3) := by decide +kernel
theorem dX12_isAt_36 : decode cX12_isAt 36 = .ok (.iconst 0, 1) := by decide +kernel
theorem dX12_isAt_37 : decode cX12_isAt 37 = .ok (.ireturn, 1) := by decide +kernel
theorem dX12_isAt_38 : decode cX12_isAt 38 = .ok (.iinc 3 1, 3) := by decide +kernel
theorem dX12_isAt_41 : decode cX12_isAt 41 = .ok (.goto (-39), 3) := by decide +kernel
theorem dX12_isAt_44 : decode cX12_isAt 44 = .ok (.iconst 1, 1) := by decide +kernel
theorem dX12_isAt_45 : decode cX12_isAt 45 = .ok (.ireturn, 1) := by decide +kernel
theorem e_X12_isAt_2 {X : gk_X} {F : Nat} : ∀ (n : Nat) (l0 : Nat) (l1 : Int32) (l2 : Int32) (l3 : Int32) (S : gk_S) (r : (Int32 × gk_S)), f_X12_isAt_2 F n l0 l1 l2 l3 S = some r → EvW X m_X12_isAt 5 0 0 2 [some (.ref l0), some (.int l1), some (.int l2), some (.int l3)] [] S (qRI r) := by
  intro n
  induction n with
  | zero => intro l0 l1 l2 l3 S r h0; rw [f_X12_isAt_2] at h0; cases h0
  | succ n ih =>
    intro l0 l1 l2 l3 S r h0; rw [f_X12_isAt_2] at h0
    refine ev_iload_n (pc := 2) (i := 3) rfl rfl dX12_isAt_2 ?_
    refine ev_aload_n (pc := 3) (i := 0) rfl rfl rfl dX12_isAt_3 ?_
    obtain ⟨g1, h2⟩ := qk_el h0; clear h0
    obtain ⟨b3, e4, h5⟩ := qP_el h2; clear h2
    refine xv_getP (pc := 4) fn_913 (isb_el g1) e4 gw_1153 dX12_isAt_4 ?_
    refine ev_iload_n (pc := 7) (i := 1) rfl rfl dX12_isAt_7 ?_
    obtain ⟨g6, h7⟩ := qk_el h5; clear h5
    obtain ⟨g8, h9⟩ := qk_el h7; clear h7
    obtain ⟨x10, e11, h12⟩ := qv_el h9; clear h9
    refine yv_iald (pc := 8) (isb_el g6) (inb_el g8) e11 dX12_isAt_8 ?_
    refine ev_ic_ge (pc := 9) (tgt := 44) (by decide) dX12_isAt_9 (fun c13 => ?_) (fun c13 => ?_)
    · replace h12 := qi_t h12 c13
      refine ev_iconst (pc := 44) (v := 1) (by decide) dX12_isAt_44 ?_
      exact ev_ireturn (pc := 45) rfl rfl (qRI_eq h12) dX12_isAt_45
    · replace h12 := qi_f h12 c13
      refine ev_ldcS (pc := 12) (i := 33) (by decide) rfl rfl dX12_isAt_12 ?_
      refine ev_aload_n (pc := 14) (i := 0) rfl rfl rfl dX12_isAt_14 ?_
      obtain ⟨b15, e16, h17⟩ := qP_el h12; clear h12
      refine xv_getP (pc := 15) fn_912 (isb_el g1) e16 gw_1152 dX12_isAt_15 ?_
      refine ev_iload_n (pc := 18) (i := 1) rfl rfl dX12_isAt_18 ?_
      obtain ⟨g18, h19⟩ := qk_el h17; clear h17
      obtain ⟨g20, h21⟩ := qk_el h19; clear h19
      obtain ⟨x22, e23, h24⟩ := qv_el h21; clear h21
      refine yv_iald (pc := 19) (isb_el g18) (inb_el g20) e23 dX12_isAt_19 ?_
      refine ev_iload_n (pc := 20) (i := 3) rfl rfl dX12_isAt_20 ?_
      refine ev_iadd (pc := 21)  dX12_isAt_21 ?_
      obtain ⟨x25, S26, e27, h28⟩ := qc_el h24; clear h24
      refine xv_callT (pc := 22) (st := []) (as := [.int (x22 + l3)]) (v := (some (.int x25))) (S' := S26) (i9 := 33) ok_J0_charAt_5068e (e_J0_charAt_5068e e27) (by decide) (by decide) rfl (Nat.le_of_ble_eq_true rfl) rfl gw_1139 dX12_isAt_22 ?_
      refine ev_aload_n (pc := 25) (i := 0) rfl rfl rfl dX12_isAt_25 ?_
      obtain ⟨g29, h30⟩ := qk_el h28; clear h28
      obtain ⟨b31, e32, h33⟩ := qP_el h30; clear h30
      refine xv_getP (pc := 26) fn_901 (isb_el g29) e32 gw_1141 dX12_isAt_26 ?_
      refine ev_iload_n (pc := 29) (i := 2) rfl rfl dX12_isAt_29 ?_
      refine ev_iload_n (pc := 30) (i := 3) rfl rfl dX12_isAt_30 ?_
      refine ev_iadd (pc := 31)  dX12_isAt_31 ?_
      obtain ⟨g34, h35⟩ := qk_el h33; clear h33
      obtain ⟨g36, h37⟩ := qk_el h35; clear h35
      obtain ⟨x38, e39, h40⟩ := qv_el h37; clear h37
      refine yv_bald (pc := 32) (isb_el g34) (inb_el g36) e39 dX12_isAt_32 ?_
      refine ev_ic_eq (pc := 33) (tgt := 38) (by decide) dX12_isAt_33 (fun c41 => ?_) (fun c41 => ?_)
      · replace h40 := qi_t h40 c41
        refine ev_iinc (pc := 38) (L' := [some (.ref l0), some (.int l1), some (.int l2), some (.int (l3 + 1))]) (i := 3) (v := (l3 + 1)) rfl rfl (by decide) rfl rfl dX12_isAt_38 ?_
        refine ev_goto (pc := 41) (tgt := 2) (by decide) dX12_isAt_41 ?_
        exact (ev_weak (qL_s (qL_s (qL_s (qL_s qL_nil)))) (ih _ _ _ _ _ _ h40))
      · replace h40 := qi_f h40 c41
        refine ev_iconst (pc := 36) (v := 0) (by decide) dX12_isAt_36 ?_
        exact ev_ireturn (pc := 37) rfl rfl (qRI_eq h40) dX12_isAt_37
theorem e_X12_isAt {X : gk_X} {F : Nat} {S : gk_S} {a : Nat} {p0 : Int32} {p1 : Int32} {r : (Int32 × gk_S)} (h0 : f_X12_isAt F S a p0 p1 = some r) : EvM X m_X12_isAt 5 0 0 [.ref a, .int p0, .int p1] S (qRI r) := by
  unfold f_X12_isAt at h0
  refine ev_method (by decide +kernel) rfl rfl (Nat.le_of_ble_eq_true rfl) ?_
  show EvW X m_X12_isAt 5 0 0 0 [some (.ref a), some (.int p0), some (.int p1), none] [] S _
  refine ev_iconst (pc := 0) (v := 0) (by decide) dX12_isAt_0 ?_
  refine ev_istore_n (pc := 1) (L' := [some (.ref a), some (.int p0), some (.int p1), some (.int 0)]) (i := 3) rfl (by decide) rfl rfl dX12_isAt_1 ?_
  exact ev_weak (qL_s (qL_s (qL_s (qL_s qL_nil)))) (e_X12_isAt_2 F _ _ _ _ _ _ h0)
theorem dX12_readWord_0 : decode cX12_readWord 0 = .ok (.iconst 1, 1) := by decide +kernel
theorem dX12_readWord_1 : decode cX12_readWord 1 = .ok (.istore_n 1, 1) := by decide +kernel
theorem dX12_readWord_2 : decode cX12_readWord 2 = .ok (.aload_n 0, 1) := by decide +kernel
theorem dX12_readWord_3 : decode cX12_readWord 3 = .ok (.getfield 110, 3) := by decide +kernel
theorem dX12_readWord_6 : decode cX12_readWord 6 = .ok (.istore_n 2, 1) := by decide +kernel
theorem dX12_readWord_7 : decode cX12_readWord 7 = .ok (.aload_n 0, 1) := by decide +kernel
theorem dX12_readWord_8 : decode cX12_readWord 8 = .ok (.aload_n 0, 1) := by decide +kernel
theorem dX12_readWord_9 : decode cX12_readWord 9 = .ok (.getfield 110, 3) := by decide +kernel
theorem dX12_readWord_12 : decode cX12_readWord 12 = .ok (.invokevirtual 113, 3) := by decide +kernel
theorem dX12_readWord_15 : decode cX12_readWord 15 = .ok (.invokestatic 123, 3) := by decide +kernel
theorem dX12_readWord_18 : decode cX12_readWord 18 = .ok (.ifCond .ne 17, 3) := by decide +kernel
theorem dX12_readWord_21 : decode cX12_readWord 21 = .ok (.aload_n 0, 1) := by decide +kernel
theorem dX12_readWord_22 : decode cX12_readWord 22 = .ok (.aload_n 0, 1) := by decide +kernel
theorem dX12_readWord_23 : decode cX12_readWord 23 = .ok (.getfield 110, 3) := by decide +kernel
theorem dX12_readWord_26 : decode cX12_readWord 26 = .ok (.invokevirtual 113, 3) := by decide +kernel
theorem dX12_readWord_29 : decode cX12_readWord 29 = .ok (.invokestatic 130, 3) := by decide +kernel
theorem dX12_readWord_32 : decode cX12_readWord 32 = .ok (.ifCond .eq 40, 3) := by decide +kernel
theorem dX12_readWord_35 : decode cX12_readWord 35 = .ok (.iload_n 1, 1) := by decide +kernel
theorem dX12_readWord_36 : decode cX12_readWord 36 = .ok (.ifCond .eq 21, 3) := by decide +kernel
theorem dX12_readWord_39 : decode cX12_readWord 39 = .ok (.aload_n 0, 1) := by decide +kernel
theorem dX12_readWord_40 : decode cX12_readWord 40 = .ok (.aload_n 0, 1) := by decide +kernel
theorem dX12_readWord_41 : decode cX12_readWord 41 = .ok (.getfield 110, 3) := by decide +kernel
theorem dX12_readWord_44 : decode cX12_readWord 44 = .ok (.invokevirtual 113, 3) := by decide +kernel
theorem dX12_readWord_47 : decode cX12_readWord 47 = .ok (.invokestatic 123, 3) := by decide +kernel
theorem dX12_readWord_50 : decode cX12_readWord 50 = .ok (.ifCond .eq 7, 3) := by decide +kernel
theorem dX12_readWord_53 : decode cX12_readWord 53 = .ok (.iconst 1, 1) := by decide +kernel
theorem dX12_readWord_54 : decode cX12_readWord 54 = .ok (.goto 4, 3) := by decide +kernel
theorem dX12_readWord_57 : decode cX12_readWord 57 = .ok (.iconst 0, 1) := by decide +kernel
theorem dX12_readWord_58 : decode cX12_readWord 58 = .ok (.istore_n 1, 1) := by decide +kernel
theorem dX12_readWord_59 : decode cX12_readWord 59 = .ok (.aload_n 0, 1) := by decide +kernel
theorem dX12_readWord_60 : decode cX12_readWord 60 = .ok (.dup, 1) := by decide +kernel
theorem dX12_readWord_61 : decode cX12_readWord 61 = .ok (.getfield 110, 3) := by decide +kernel
theorem dX12_readWord_64 : decode cX12_readWord 64 = .ok (.iconst 1, 1) := by decide +kernel
theorem dX12_readWord_65 : decode cX12_readWord 65 = .ok (.iadd, 1) := by decide +kernel
theorem dX12_readWord_66 : decode cX12_readWord 66 = .ok (.putfield 110, 3) := by decide +kernel
theorem dX12_readWord_69 : decode cX12_readWord 69 = .ok (.goto (-62), 3) := by decide +kernel
theorem dX12_readWord_72 : decode cX12_readWord 72 = .ok (.aload_n 0, 1) := by decide +kernel
theorem dX12_readWord_73 : decode cX12_readWord 73 = .ok (.iload_n 1, 1) := by decide +kernel
theorem dX12_readWord_74 : decode cX12_readWord 74 = .ok (.ifCond .eq 18, 3) := by decide +kernel
theorem dX12_readWord_77 : decode cX12_readWord 77 = .ok (.aload_n 0, 1) := by decide +kernel
theorem dX12_readWord_78 : decode cX12_readWord 78 = .ok (.getfield 110, 3) := by decide +kernel
theorem dX12_readWord_81 : decode cX12_readWord 81 = .ok (.iload_n 2, 1) := by decide +kernel
theorem dX12_readWord_82 : decode cX12_readWord 82 = .ok (.isub, 1) := by decide +kernel
theorem dX12_readWord_83 : decode cX12_readWord 83 = .ok (.bipush 11, 2) := by decide +kernel
theorem dX12_readWord_85 : decode cX12_readWord 85 = .ok (.if_icmp .gt 7, 3) := by decide +kernel
theorem dX12_readWord_88 : decode cX12_readWord 88 = .ok (.iconst 1, 1) := by decide +kernel
theorem dX12_readWord_89 : decode cX12_readWord 89 = .ok (.goto 4, 3) := by decide +kernel
theorem dX12_readWord_92 : decode cX12_readWord 92 = .ok (.iconst 5, 1) := by decide +kernel
theorem dX12_readWord_93 : decode cX12_readWord 93 = .ok (.putfield 120, 3) := by decide +kernel
theorem dX12_readWord_96 : decode cX12_readWord 96 = .ok (.aload_n 0, 1) := by decide +kernel
theorem dX12_readWord_97 : decode cX12_readWord 97 = .ok (.iconst (-1), 1) := by decide +kernel
theorem dX12_readWord_98 : decode cX12_readWord 98 = .ok (.putfield 136, 3) := by decide +kernel
theorem dX12_readWord_101 : decode cX12_readWord 101 = .ok (.iconst 0, 1) := by decide +kernel
theorem dX12_readWord_102 : decode cX12_readWord 102 = .ok (.istore_n 3, 1) := by decide +kernel
theorem dX12_readWord_103 : decode cX12_readWord 103 = .ok (.iload_n 3, 1) := by decide +kernel
theorem dX12_readWord_104 : decode cX12_readWord 104 = .ok (.bipush 18, 2) := by decide +kernel
theorem dX12_readWord_106 : decode cX12_readWord 106 = .ok (.if_icmp .ge 38, 3) := by decide +kernel
theorem dX12_readWord_109 : decode cX12_readWord 109 = .ok (.aload_n 0, 1) := by decide +kernel
theorem dX12_readWord_110 : decode cX12_readWord 110 = .ok (.getfield 65, 3) := by decide +kernel
theorem dX12_readWord_113 : decode cX12_readWord 113 = .ok (.iload_n 3, 1) := by decide +kernel
theorem dX12_readWord_114 : decode cX12_readWord 114 = .ok (.iaload, 1) := by decide +kernel
theorem dX12_readWord_115 : decode cX12_readWord 115 = .ok (.aload_n 0, 1) := by decide +kernel
theorem dX12_readWord_116 : decode cX12_readWord 116 = .ok (.getfield 110, 3) := by decide +kernel
theorem dX12_readWord_119 : decode cX12_readWord 119 = .ok (.iload_n 2, 1) := by decide +kernel
theorem dX12_readWord_120 : decode cX12_readWord 120 = .ok (.isub, 1) := by decide +kernel
theorem dX12_readWord_121 : decode cX12_readWord 121 = .ok (.if_icmp .ne 17, 3) := by decide +kernel
theorem dX12_readWord_124 : decode cX12_readWord 124 = .ok (.aload_n 0, 1) := by decide +kernel
theorem dX12_readWord_125 : decode cX12_readWord 125 = .ok (.iload_n 3, 1) := by decide +kernel
theorem dX12_readWord_126 : decode cX12_readWord 126 = .ok (.iload_n 2, 1) := by decide +kernel
theorem dX12_readWord_127 : decode cX12_readWord 127 = .ok (.invokevirtual 139, 3) := by decide +kernel
theorem dX12_readWord_130 : decode cX12_readWord 130 = .ok (.ifCond .eq 8, 3) := by decide +kernel
theorem dX12_readWord_133 : decode cX12_readWord 133 = .ok (.aload_n 0, 1) := by decide +kernel
theorem dX12_readWord_134 : decode cX12_readWord 134 = .ok (.iload_n 3, 1) := by decide +kernel
theorem dX12_readWord_135 : decode cX12_readWord 135 = .ok (.putfield 136, 3) := by decide +kernel
theorem dX12_readWord_138 : decode cX12_readWord 138 = .ok (.iinc 3 1, 3) := by decide +kernel
theorem dX12_readWord_141 : decode cX12_readWord 141 = .ok (.goto (-38), 3) := by decide +kernel
theorem dX12_readWord_144 : decode cX12_readWord 144 = .ok (.return_, 1) := by decide +kernel
theorem e_X12_readWord_58 {X : gk_X} {F : Nat} {k7 : Nat → Int32 → Int32 → gk_S → Option (Unit × gk_S)} (hk7 : ∀ (l0 : Nat) (l1 : Int32) (l2 : Int32) (S : gk_S) (r : (Unit × gk_S)), k7 l0 l1 l2 S = some r → EvW X m_X12_readWord 6 0 0 7 [some (.ref l0), some (.int l1), some (.int l2), none] [] S (qRU r)) {l0 : Nat} {l2 : Int32} {s0 : Int32} {S : gk_S} {r : (Unit × gk_S)} (h0 : f_X12_readWord_58 F k7 l0 l2 s0 S = some r) : EvW X m_X12_readWord 6 0 0 58 [some (.ref l0), none, some (.int l2), none] [.int s0] S (qRU r) := by
  unfold f_X12_readWord_58 at h0
  refine ev_istore_n (pc := 58) (L' := [some (.ref l0), some (.int s0), some (.int l2), none]) (i := 1) rfl (by decide) rfl rfl dX12_readWord_58 ?_
  refine ev_aload_n (pc := 59) (i := 0) rfl rfl rfl dX12_readWord_59 ?_
  refine ev_dup (pc := 60) (.inr rfl) dX12_readWord_60 ?_
  obtain ⟨g23, h24⟩ := qk_el h0; clear h0
  obtain ⟨x25, e26, h27⟩ := qv_el h24; clear h24
  refine xv_getIv (pc := 61) fn_904 (isb_el g23) e26 gw_1144 dX12_readWord_61 ?_
  refine ev_iconst (pc := 64) (v := 1) (by decide) dX12_readWord_64 ?_
  refine ev_iadd (pc := 65)  dX12_readWord_65 ?_
  obtain ⟨S28, e29, h30⟩ := qv_el h27; clear h27
  refine yv_putI (pc := 66) fn_904 ⟨rfl, rfl⟩ (isb_el g23) e29 gw_1144 dX12_readWord_66 ?_
  refine ev_goto (pc := 69) (tgt := 7) (by decide) dX12_readWord_69 ?_
  exact ev_weak (qL_s (qL_s (qL_s (qL_n qL_nil)))) (hk7 _ _ _ _ _ h30)
theorem e_X12_readWord_35 {X : gk_X} {F : Nat} {k7 : Nat → Int32 → Int32 → gk_S → Option (Unit × gk_S)} (hk7 : ∀ (l0 : Nat) (l1 : Int32) (l2 : Int32) (S : gk_S) (r : (Unit × gk_S)), k7 l0 l1 l2 S = some r → EvW X m_X12_readWord 6 0 0 7 [some (.ref l0), some (.int l1), some (.int l2), none] [] S (qRU r)) {l0 : Nat} {l1 : Int32} {l2 : Int32} {S : gk_S} {r : (Unit × gk_S)} (h0 : f_X12_readWord_35 F k7 l0 l1 l2 S = some r) : EvW X m_X12_readWord 6 0 0 35 [some (.ref l0), some (.int l1), some (.int l2), none] [] S (qRU r) := by
  unfold f_X12_readWord_35 at h0
  refine ev_iload_n (pc := 35) (i := 1) rfl rfl dX12_readWord_35 ?_
  refine ev_if_eq (pc := 36) (tgt := 57) (by decide) dX12_readWord_36 (fun c21 => ?_) (fun c21 => ?_)
  · replace h0 := qi_t h0 c21
    refine ev_iconst (pc := 57) (v := 0) (by decide) dX12_readWord_57 ?_
    exact ev_weak (qL_s (qL_n (qL_s (qL_n qL_nil)))) (e_X12_readWord_58 hk7 h0)
  · replace h0 := qi_f h0 c21
    refine ev_aload_n (pc := 39) (i := 0) rfl rfl rfl dX12_readWord_39 ?_
    refine ev_aload_n (pc := 40) (i := 0) rfl rfl rfl dX12_readWord_40 ?_
    obtain ⟨g31, h32⟩ := qk_el h0; clear h0
    obtain ⟨x33, e34, h35⟩ := qv_el h32; clear h32
    refine xv_getIv (pc := 41) fn_904 (isb_el g31) e34 gw_1144 dX12_readWord_41 ?_
    obtain ⟨x36, S37, e38, h39⟩ := qc_el h35; clear h35
    refine xv_callV (pc := 44) (st := []) (as := [.int x33]) (v := (some (.int x36))) (S' := S37) ok_X12_byteAt (e_X12_byteAt e38) (isb_el g31) (by decide) rfl (Nat.le_of_ble_eq_true rfl) rfl gw_1280 dX12_readWord_44 ?_
    obtain ⟨x40, S41, e42, h43⟩ := qc_el h39; clear h39
    refine xv_callS (pc := 47) (st := []) (as := [.int x36]) (v := (some (.int x40))) (S' := S41) ok_X12_isSmall (e_X12_isSmall e42) (by decide) rfl (Nat.le_of_ble_eq_true rfl) rfl gw_1284 dX12_readWord_47 ?_
    refine ev_if_eq (pc := 50) (tgt := 57) (by decide) dX12_readWord_50 (fun c44 => ?_) (fun c44 => ?_)
    · replace h43 := qi_t h43 c44
      refine ev_iconst (pc := 57) (v := 0) (by decide) dX12_readWord_57 ?_
      exact ev_weak (qL_s (qL_n (qL_s (qL_n qL_nil)))) (e_X12_readWord_58 hk7 h43)
    · replace h43 := qi_f h43 c44
      refine ev_iconst (pc := 53) (v := 1) (by decide) dX12_readWord_53 ?_
      refine ev_goto (pc := 54) (tgt := 58) (by decide) dX12_readWord_54 ?_
      exact ev_weak (qL_s (qL_n (qL_s (qL_n qL_nil)))) (e_X12_readWord_58 hk7 h43)
theorem e_X12_readWord_103 {X : gk_X} {F : Nat} : ∀ (n : Nat) (l0 : Nat) (l2 : Int32) (l3 : Int32) (S : gk_S) (r : (Unit × gk_S)), f_X12_readWord_103 F n l0 l2 l3 S = some r → EvW X m_X12_readWord 6 0 0 103 [some (.ref l0), none, some (.int l2), some (.int l3)] [] S (qRU r) := by
  intro n
  induction n with
  | zero => intro l0 l2 l3 S r h0; rw [f_X12_readWord_103] at h0; cases h0
  | succ n ih =>
    intro l0 l2 l3 S r h0; rw [f_X12_readWord_103] at h0
    refine ev_iload_n (pc := 103) (i := 3) rfl rfl dX12_readWord_103 ?_
    refine ev_bipush (pc := 104) (v := 18) (by decide) dX12_readWord_104 ?_
    refine ev_ic_ge (pc := 106) (tgt := 144) (by decide) dX12_readWord_106 (fun c73 => ?_) (fun c73 => ?_)
    · replace h0 := qi_t h0 c73
      exact ev_return (pc := 144) rfl (qRU_eq h0) dX12_readWord_144
    · replace h0 := qi_f h0 c73
      refine ev_aload_n (pc := 109) (i := 0) rfl rfl rfl dX12_readWord_109 ?_
      obtain ⟨g75, h76⟩ := qk_el h0; clear h0
      obtain ⟨b77, e78, h79⟩ := qP_el h76; clear h76
      refine xv_getP (pc := 110) fn_913 (isb_el g75) e78 gw_1153 dX12_readWord_110 ?_
      refine ev_iload_n (pc := 113) (i := 3) rfl rfl dX12_readWord_113 ?_
      obtain ⟨g80, h81⟩ := qk_el h79; clear h79
      obtain ⟨g82, h83⟩ := qk_el h81; clear h81
      obtain ⟨x84, e85, h86⟩ := qv_el h83; clear h83
      refine yv_iald (pc := 114) (isb_el g80) (inb_el g82) e85 dX12_readWord_114 ?_
      refine ev_aload_n (pc := 115) (i := 0) rfl rfl rfl dX12_readWord_115 ?_
      obtain ⟨x87, e88, h89⟩ := qv_el h86; clear h86
      refine xv_getIv (pc := 116) fn_904 (isb_el g75) e88 gw_1144 dX12_readWord_116 ?_
      refine ev_iload_n (pc := 119) (i := 2) rfl rfl dX12_readWord_119 ?_
      refine ev_isub (pc := 120)  dX12_readWord_120 ?_
      refine ev_ic_ne (pc := 121) (tgt := 138) (by decide) dX12_readWord_121 (fun c90 => ?_) (fun c90 => ?_)
      · replace h89 := qi_f h89 c90
        refine ev_iinc (pc := 138) (L' := [some (.ref l0), none, some (.int l2), some (.int (l3 + 1))]) (i := 3) (v := (l3 + 1)) rfl rfl (by decide) rfl rfl dX12_readWord_138 ?_
        refine ev_goto (pc := 141) (tgt := 103) (by decide) dX12_readWord_141 ?_
        exact (ev_weak (qL_s (qL_n (qL_s (qL_s qL_nil)))) (ih _ _ _ _ _ h89))
      · replace h89 := qi_t h89 c90
        refine ev_aload_n (pc := 124) (i := 0) rfl rfl rfl dX12_readWord_124 ?_
        refine ev_iload_n (pc := 125) (i := 3) rfl rfl dX12_readWord_125 ?_
        refine ev_iload_n (pc := 126) (i := 2) rfl rfl dX12_readWord_126 ?_
        obtain ⟨x92, S93, e94, h95⟩ := qc_el h89; clear h89
        refine xv_callV (pc := 127) (st := []) (as := [.int l3, .int l2]) (v := (some (.int x92))) (S' := S93) ok_X12_isAt (e_X12_isAt e94) (isb_el g75) (by decide) rfl (Nat.le_of_ble_eq_true rfl) rfl gw_1294 dX12_readWord_127 ?_
        refine ev_if_eq (pc := 130) (tgt := 138) (by decide) dX12_readWord_130 (fun c96 => ?_) (fun c96 => ?_)
        · replace h95 := qi_t h95 c96
          refine ev_iinc (pc := 138) (L' := [some (.ref l0), none, some (.int l2), some (.int (l3 + 1))]) (i := 3) (v := (l3 + 1)) rfl rfl (by decide) rfl rfl dX12_readWord_138 ?_
          refine ev_goto (pc := 141) (tgt := 103) (by decide) dX12_readWord_141 ?_
          exact (ev_weak (qL_s (qL_n (qL_s (qL_s qL_nil)))) (ih _ _ _ _ _ h95))
        · replace h95 := qi_f h95 c96
          refine ev_aload_n (pc := 133) (i := 0) rfl rfl rfl dX12_readWord_133 ?_
          refine ev_iload_n (pc := 134) (i := 3) rfl rfl dX12_readWord_134 ?_
          obtain ⟨g98, h99⟩ := qk_el h95; clear h95
          obtain ⟨S100, e101, h102⟩ := qv_el h99; clear h99
          refine yv_putI (pc := 135) fn_916 ⟨rfl, rfl⟩ (isb_el g98) e101 gw_1156 dX12_readWord_135 ?_
          refine ev_iinc (pc := 138) (L' := [some (.ref l0), none, some (.int l2), some (.int (l3 + 1))]) (i := 3) (v := (l3 + 1)) rfl rfl (by decide) rfl rfl dX12_readWord_138 ?_
          refine ev_goto (pc := 141) (tgt := 103) (by decide) dX12_readWord_141 ?_
          exact (ev_weak (qL_s (qL_n (qL_s (qL_s qL_nil)))) (ih _ _ _ _ _ h102))
theorem e_X12_readWord_92 {X : gk_X} {F : Nat} {l0 : Nat} {l2 : Int32} {s0 : Nat} {S : gk_S} {r : (Unit × gk_S)} (h0 : f_X12_readWord_92 F l0 l2 s0 S = some r) : EvW X m_X12_readWord 6 0 0 92 [some (.ref l0), none, some (.int l2), none] [.ref s0] S (qRU r) := by
  unfold f_X12_readWord_92 at h0
  refine ev_iconst (pc := 92) (v := 5) (by decide) dX12_readWord_92 ?_
  obtain ⟨g63, h64⟩ := qk_el h0; clear h0
  obtain ⟨S65, e66, h67⟩ := qv_el h64; clear h64
  refine yv_putI (pc := 93) fn_914 ⟨rfl, rfl⟩ (isb_el g63) e66 gw_1154 dX12_readWord_93 ?_
  refine ev_aload_n (pc := 96) (i := 0) rfl rfl rfl dX12_readWord_96 ?_
  refine ev_iconst (pc := 97) (v := -1) (by decide) dX12_readWord_97 ?_
  obtain ⟨g68, h69⟩ := qk_el h67; clear h67
  obtain ⟨S70, e71, h72⟩ := qv_el h69; clear h69
  refine yv_putI (pc := 98) fn_916 ⟨rfl, rfl⟩ (isb_el g68) e71 gw_1156 dX12_readWord_98 ?_
  refine ev_iconst (pc := 101) (v := 0) (by decide) dX12_readWord_101 ?_
  refine ev_istore_n (pc := 102) (L' := [some (.ref l0), none, some (.int l2), some (.int 0)]) (i := 3) rfl (by decide) rfl rfl dX12_readWord_102 ?_
  exact ev_weak (qL_s (qL_n (qL_s (qL_s qL_nil)))) (e_X12_readWord_103 F _ _ _ _ _ h72)
theorem e_X12_readWord_7 {X : gk_X} {F : Nat} : ∀ (n : Nat) (l0 : Nat) (l1 : Int32) (l2 : Int32) (S : gk_S) (r : (Unit × gk_S)), f_X12_readWord_7 F n l0 l1 l2 S = some r → EvW X m_X12_readWord 6 0 0 7 [some (.ref l0), some (.int l1), some (.int l2), none] [] S (qRU r) := by
  intro n
  induction n with
  | zero => intro l0 l1 l2 S r h0; rw [f_X12_readWord_7] at h0; cases h0
  | succ n ih =>
    intro l0 l1 l2 S r h0; rw [f_X12_readWord_7] at h0
    refine ev_aload_n (pc := 7) (i := 0) rfl rfl rfl dX12_readWord_7 ?_
    refine ev_aload_n (pc := 8) (i := 0) rfl rfl rfl dX12_readWord_8 ?_
    obtain ⟨g6, h7⟩ := qk_el h0; clear h0
    obtain ⟨x8, e9, h10⟩ := qv_el h7; clear h7
    refine xv_getIv (pc := 9) fn_904 (isb_el g6) e9 gw_1144 dX12_readWord_9 ?_
    obtain ⟨x11, S12, e13, h14⟩ := qc_el h10; clear h10
    refine xv_callV (pc := 12) (st := []) (as := [.int x8]) (v := (some (.int x11))) (S' := S12) ok_X12_byteAt (e_X12_byteAt e13) (isb_el g6) (by decide) rfl (Nat.le_of_ble_eq_true rfl) rfl gw_1280 dX12_readWord_12 ?_
    obtain ⟨x15, S16, e17, h18⟩ := qc_el h14; clear h14
    refine xv_callS (pc := 15) (st := []) (as := [.int x11]) (v := (some (.int x15))) (S' := S16) ok_X12_isSmall (e_X12_isSmall e17) (by decide) rfl (Nat.le_of_ble_eq_true rfl) rfl gw_1284 dX12_readWord_15 ?_
    refine ev_if_ne (pc := 18) (tgt := 35) (by decide) dX12_readWord_18 (fun c19 => ?_) (fun c19 => ?_)
    · replace h18 := qi_f h18 c19
      exact ev_weak (qL_s (qL_s (qL_s (qL_n qL_nil)))) (e_X12_readWord_35 ih h18)
    · replace h18 := qi_t h18 c19
      refine ev_aload_n (pc := 21) (i := 0) rfl rfl rfl dX12_readWord_21 ?_
      refine ev_aload_n (pc := 22) (i := 0) rfl rfl rfl dX12_readWord_22 ?_
      obtain ⟨g46, h47⟩ := qk_el h18; clear h18
      obtain ⟨x48, e49, h50⟩ := qv_el h47; clear h47
      refine xv_getIv (pc := 23) fn_904 (isb_el g46) e49 gw_1144 dX12_readWord_23 ?_
      obtain ⟨x51, S52, e53, h54⟩ := qc_el h50; clear h50
      refine xv_callV (pc := 26) (st := []) (as := [.int x48]) (v := (some (.int x51))) (S' := S52) ok_X12_byteAt (e_X12_byteAt e53) (isb_el g46) (by decide) rfl (Nat.le_of_ble_eq_true rfl) rfl gw_1280 dX12_readWord_26 ?_
      obtain ⟨x55, S56, e57, h58⟩ := qc_el h54; clear h54
      refine xv_callS (pc := 29) (st := []) (as := [.int x51]) (v := (some (.int x55))) (S' := S56) ok_X12_isDigit (e_X12_isDigit e57) (by decide) rfl (Nat.le_of_ble_eq_true rfl) rfl gw_1291 dX12_readWord_29 ?_
      refine ev_if_eq (pc := 32) (tgt := 72) (by decide) dX12_readWord_32 (fun c59 => ?_) (fun c59 => ?_)
      · replace h58 := qi_t h58 c59
        refine ev_aload_n (pc := 72) (i := 0) rfl rfl rfl dX12_readWord_72 ?_
        refine ev_iload_n (pc := 73) (i := 1) rfl rfl dX12_readWord_73 ?_
        refine ev_if_eq (pc := 74) (tgt := 92) (by decide) dX12_readWord_74 (fun c61 => ?_) (fun c61 => ?_)
        · replace h58 := qi_t h58 c61
          exact ev_weak (qL_s (qL_n (qL_s (qL_n qL_nil)))) (e_X12_readWord_92 h58)
        · replace h58 := qi_f h58 c61
          refine ev_aload_n (pc := 77) (i := 0) rfl rfl rfl dX12_readWord_77 ?_
          obtain ⟨g103, h104⟩ := qk_el h58; clear h58
          obtain ⟨x105, e106, h107⟩ := qv_el h104; clear h104
          refine xv_getIv (pc := 78) fn_904 (isb_el g103) e106 gw_1144 dX12_readWord_78 ?_
          refine ev_iload_n (pc := 81) (i := 2) rfl rfl dX12_readWord_81 ?_
          refine ev_isub (pc := 82)  dX12_readWord_82 ?_
          refine ev_bipush (pc := 83) (v := 11) (by decide) dX12_readWord_83 ?_
          refine ev_ic_gt (pc := 85) (tgt := 92) (by decide) dX12_readWord_85 (fun c108 => ?_) (fun c108 => ?_)
          · replace h107 := qi_t h107 c108
            exact ev_weak (qL_s (qL_n (qL_s (qL_n qL_nil)))) (e_X12_readWord_92 h107)
          · replace h107 := qi_f h107 c108
            refine ev_iconst (pc := 88) (v := 1) (by decide) dX12_readWord_88 ?_
            refine ev_goto (pc := 89) (tgt := 93) (by decide) dX12_readWord_89 ?_
            obtain ⟨S110, e111, h112⟩ := qv_el h107; clear h107
            refine yv_putI (pc := 93) fn_914 ⟨rfl, rfl⟩ (isb_el g103) e111 gw_1154 dX12_readWord_93 ?_
            refine ev_aload_n (pc := 96) (i := 0) rfl rfl rfl dX12_readWord_96 ?_
            refine ev_iconst (pc := 97) (v := -1) (by decide) dX12_readWord_97 ?_
            obtain ⟨S113, e114, h115⟩ := qv_el h112; clear h112
            refine yv_putI (pc := 98) fn_916 ⟨rfl, rfl⟩ (is_sI (isb_el g103) e111) e114 gw_1156 dX12_readWord_98 ?_
            refine ev_iconst (pc := 101) (v := 0) (by decide) dX12_readWord_101 ?_
            refine ev_istore_n (pc := 102) (L' := [some (.ref l0), some (.int l1), some (.int l2), some (.int 0)]) (i := 3) rfl (by decide) rfl rfl dX12_readWord_102 ?_
            exact ev_weak (qL_s (qL_n (qL_s (qL_s qL_nil)))) (e_X12_readWord_103 F _ _ _ _ _ h115)
      · replace h58 := qi_f h58 c59
        exact ev_weak (qL_s (qL_s (qL_s (qL_n qL_nil)))) (e_X12_readWord_35 ih h58)
theorem e_X12_readWord {X : gk_X} {F : Nat} {S : gk_S} {a : Nat} {r : (Unit × gk_S)} (h0 : f_X12_readWord F S a = some r) : EvM X m_X12_readWord 6 0 0 [.ref a] S (qRU r) := by
  unfold f_X12_readWord at h0
  refine ev_method (by decide +kernel) rfl rfl (Nat.le_of_ble_eq_true rfl) ?_
  show EvW X m_X12_readWord 6 0 0 0 [some (.ref a), none, none, none] [] S _
  refine ev_iconst (pc := 0) (v := 1) (by decide) dX12_readWord_0 ?_
  refine ev_istore_n (pc := 1) (L' := [some (.ref a), some (.int 1), none, none]) (i := 1) rfl (by decide) rfl rfl dX12_readWord_1 ?_
  refine ev_aload_n (pc := 2) (i := 0) rfl rfl rfl dX12_readWord_2 ?_
  obtain ⟨g1, h2⟩ := qk_el h0; clear h0
  obtain ⟨x3, e4, h5⟩ := qv_el h2; clear h2
  refine xv_getIv (pc := 3) fn_904 (isb_el g1) e4 gw_1144 dX12_readWord_3 ?_
  refine ev_istore_n (pc := 6) (L' := [some (.ref a), some (.int 1), some (.int x3), none]) (i := 2) rfl (by decide) rfl rfl dX12_readWord_6 ?_
  exact ev_weak (qL_s (qL_s (qL_s (qL_n qL_nil)))) (e_X12_readWord_7 F _ _ _ _ _ h5)
theorem dX12_readAddress_0 : decode cX12_readAddress 0 = .ok (.iconst 1, 1) := by decide +kernel
theorem dX12_readAddress_1 : decode cX12_readAddress 1 = .ok (.istore_n 1, 1) := by decide +kernel
theorem dX12_readAddress_2 : decode cX12_readAddress 2 = .ok (.iconst 0, 1) := by decide +kernel
theorem dX12_readAddress_3 : decode cX12_readAddress 3 = .ok (.istore_n 2, 1) := by decide +kernel
theorem dX12_readAddress_4 : decode cX12_readAddress 4 = .ok (.iconst 0, 1) := by decide +kernel
theorem dX12_readAddress_5 : decode cX12_readAddress 5 = .ok (.istore_n 3, 1) := by decide +kernel
theorem dX12_readAddress_6 : decode cX12_readAddress 6 = .ok (.iconst 1, 1) := by decide +kernel
theorem dX12_readAddress_7 : decode cX12_readAddress 7 = .ok (.istore 4, 2) := by decide +kernel
theorem dX12_readAddress_9 : decode cX12_readAddress 9 = .ok (.aload_n 0, 1) := by decide +kernel
theorem dX12_readAddress_10 : decode cX12_readAddress 10 = .ok (.lconst 0, 1) := by decide +kernel
theorem dX12_readAddress_11 : decode cX12_readAddress 11 = .ok (.putfield 143, 3) := by decide +kernel
theorem dX12_readAddress_14 : decode cX12_readAddress 14 = .ok (.aload_n 0, 1) := by decide +kernel
theorem dX12_readAddress_15 : decode cX12_readAddress 15 = .ok (.aload_n 0, 1) := by decide +kernel
theorem dX12_readAddress_16 : decode cX12_readAddress 16 = .ok (.getfield 110, 3) := by decide +kernel
theorem dX12_readAddress_19 : decode cX12_readAddress 19 = .ok (.invokevirtual 113, 3) := by decide +kernel
theorem dX12_readAddress_22 : decode cX12_readAddress 22 = .ok (.invokestatic 123, 3) := by decide +kernel
theorem dX12_readAddress_25 : decode cX12_readAddress 25 = .ok (.ifCond .ne 30, 3) := by decide +kernel
theorem dX12_readAddress_28 : decode cX12_readAddress 28 = .ok (.aload_n 0, 1) := by decide +kernel
theorem dX12_readAddress_29 : decode cX12_readAddress 29 = .ok (.aload_n 0, 1) := by decide +kernel
theorem dX12_readAddress_30 : decode cX12_readAddress 30 = .ok (.getfield 110, 3) := by decide +kernel
theorem dX12_readAddress_33 : decode cX12_readAddress 33 = .ok (.invokevirtual 113, 3) := by decide +kernel
theorem dX12_readAddress_36 : decode cX12_readAddress 36 = .ok (.invokestatic 130, 3) := by decide +kernel
theorem dX12_readAddress_39 : decode cX12_readAddress 39 = .ok (.ifCond .ne 16, 3) := by decide +kernel
theorem dX12_readAddress_42 : decode cX12_readAddress 42 = .ok (.aload_n 0, 1) := by decide +kernel
theorem dX12_readAddress_43 : decode cX12_readAddress 43 = .ok (.aload_n 0, 1) := by decide +kernel
theorem dX12_readAddress_44 : decode cX12_readAddress 44 = .ok (.getfield 110, 3) := by decide +kernel
theorem dX12_readAddress_47 : decode cX12_readAddress 47 = .ok (.invokevirtual 113, 3) := by decide +kernel
theorem dX12_readAddress_50 : decode cX12_readAddress 50 = .ok (.bipush 46, 2) := by decide +kernel
theorem dX12_readAddress_52 : decode cX12_readAddress 52 = .ok (.if_icmp .ne 157, 3) := by decide +kernel
theorem dX12_readAddress_55 : decode cX12_readAddress 55 = .ok (.aload_n 0, 1) := by decide +kernel
theorem dX12_readAddress_56 : decode cX12_readAddress 56 = .ok (.aload_n 0, 1) := by decide +kernel
theorem dX12_readAddress_57 : decode cX12_readAddress 57 = .ok (.getfield 110, 3) := by decide +kernel
theorem dX12_readAddress_60 : decode cX12_readAddress 60 = .ok (.invokevirtual 113, 3) := by decide +kernel
theorem dX12_readAddress_63 : decode cX12_readAddress 63 = .ok (.istore 5, 2) := by decide +kernel
theorem dX12_readAddress_65 : decode cX12_readAddress 65 = .ok (.aload_n 0, 1) := by decide +kernel
theorem dX12_readAddress_66 : decode cX12_readAddress 66 = .ok (.dup, 1) := by decide +kernel
theorem dX12_readAddress_67 : decode cX12_readAddress 67 = .ok (.getfield 110, 3) := by decide +kernel
theorem dX12_readAddress_70 : decode cX12_readAddress 70 = .ok (.iconst 1, 1) := by decide +kernel
theorem dX12_readAddress_71 : decode cX12_readAddress 71 = .ok (.iadd, 1) := by decide +kernel
theorem dX12_readAddress_72 : decode cX12_readAddress 72 = .ok (.putfield 110, 3) := by decide +kernel
theorem dX12_readAddress_75 : decode cX12_readAddress 75 = .ok (.iload 5, 2) := by decide +kernel
theorem dX12_readAddress_77 : decode cX12_readAddress 77 = .ok (.bipush 46, 2) := by decide +kernel
theorem dX12_readAddress_79 : decode cX12_readAddress 79 = .ok (.if_icmp .ne 43, 3) := by decide +kernel
theorem dX12_readAddress_82 : decode cX12_readAddress 82 = .ok (.iload 4, 2) := by decide +kernel
theorem dX12_readAddress_84 : decode cX12_readAddress 84 = .ok (.ifCond .eq 11, 3) := by decide +kernel
theorem dX12_readAddress_87 : decode cX12_readAddress 87 = .ok (.iload_n 2, 1) := by decide +kernel
theorem dX12_readAddress_88 : decode cX12_readAddress 88 = .ok (.ifCond .le 7, 3) := by decide +kernel
theorem dX12_readAddress_91 : decode cX12_readAddress 91 = .ok (.iconst 1, 1) := by decide +kernel
theorem dX12_readAddress_92 : decode cX12_readAddress 92 = .ok (.goto 4, 3) := by decide +kernel
theorem dX12_readAddress_95 : decode cX12_readAddress 95 = .ok (.iconst 0, 1) := by decide +kernel
theorem dX12_readAddress_96 : decode cX12_readAddress 96 = .ok (.istore 4, 2) := by decide +kernel
theorem dX12_readAddress_98 : decode cX12_readAddress 98 = .ok (.aload_n 0, 1) := by decide +kernel
theorem dX12_readAddress_99 : decode cX12_readAddress 99 = .ok (.aload_n 0, 1) := by decide +kernel
theorem dX12_readAddress_100 : decode cX12_readAddress 100 = .ok (.getfield 143, 3) := by decide +kernel
theorem dX12_readAddress_103 : decode cX12_readAddress 103 = .ok (.bipush 8, 2) := by decide +kernel
theorem dX12_readAddress_105 : decode cX12_readAddress 105 = .ok (.lshl, 1) := by decide +kernel
theorem dX12_readAddress_106 : decode cX12_readAddress 106 = .ok (.iload_n 3, 1) := by decide +kernel
theorem dX12_readAddress_107 : decode cX12_readAddress 107 = .ok (.i2l, 1) := by decide +kernel
theorem dX12_readAddress_108 : decode cX12_readAddress 108 = .ok (.lor, 1) := by decide +kernel
theorem dX12_readAddress_109 : decode cX12_readAddress 109 = .ok (.putfield 143, 3) := by decide +kernel
theorem dX12_readAddress_112 : decode cX12_readAddress 112 = .ok (.iinc 1 1, 3) := by decide +kernel
theorem dX12_readAddress_115 : decode cX12_readAddress 115 = .ok (.iconst 0, 1) := by decide +kernel
theorem dX12_readAddress_116 : decode cX12_readAddress 116 = .ok (.istore_n 2, 1) := by decide +kernel
theorem dX12_readAddress_117 : decode cX12_readAddress 117 = .ok (.iconst 0, 1) := by decide +kernel
theorem dX12_readAddress_118 : decode cX12_readAddress 118 = .ok (.istore_n 3, 1) := by decide +kernel
theorem dX12_readAddress_119 : decode cX12_readAddress 119 = .ok (.goto 70, 3) := by decide +kernel
theorem dX12_readAddress_122 : decode cX12_readAddress 122 = .ok (.iinc 2 1, 3) := by decide +kernel
theorem dX12_readAddress_125 : decode cX12_readAddress 125 = .ok (.iload 4, 2) := by decide +kernel
theorem dX12_readAddress_127 : decode cX12_readAddress 127 = .ok (.ifCond .eq 20, 3) := by decide +kernel
theorem dX12_readAddress_130 : decode cX12_readAddress 130 = .ok (.iload 5, 2) := by decide +kernel
theorem dX12_readAddress_132 : decode cX12_readAddress 132 = .ok (.invokestatic 130, 3) := by decide +kernel
theorem dX12_readAddress_135 : decode cX12_readAddress 135 = .ok (.ifCond .eq 12, 3) := by decide +kernel
theorem dX12_readAddress_138 : decode cX12_readAddress 138 = .ok (.iload_n 2, 1) := by decide +kernel
theorem dX12_readAddress_139 : decode cX12_readAddress 139 = .ok (.iconst 4, 1) := by decide +kernel
theorem dX12_readAddress_140 : decode cX12_readAddress 140 = .ok (.if_icmp .ge 7, 3) := by decide +kernel
theorem dX12_readAddress_143 : decode cX12_readAddress 143 = .ok (.iconst 1, 1) := by decide +kernel
theorem dX12_readAddress_144 : decode cX12_readAddress 144 = .ok (.goto 4, 3) := by decide +kernel
theorem dX12_readAddress_147 : decode cX12_readAddress 147 = .ok (.iconst 0, 1) := by decide +kernel
theorem dX12_readAddress_148 : decode cX12_readAddress 148 = .ok (.istore 4, 2) := by decide +kernel
theorem dX12_readAddress_150 : decode cX12_readAddress 150 = .ok (.iload 4, 2) := by decide +kernel
theorem dX12_readAddress_152 : decode cX12_readAddress 152 = .ok (.ifCond .eq 16, 3) := by decide +kernel
theorem dX12_readAddress_155 : decode cX12_readAddress 155 = .ok (.bipush 10, 2) := by decide +kernel
theorem dX12_readAddress_157 : decode cX12_readAddress 157 = .ok (.iload_n 3, 1) := by decide +kernel
theorem dX12_readAddress_158 : decode cX12_readAddress 158 = .ok (.imul, 1) := by decide +kernel
theorem dX12_readAddress_159 : decode cX12_readAddress 159 = .ok (.iload 5, 2) := by decide +kernel
theorem dX12_readAddress_161 : decode cX12_readAddress 161 = .ok (.iadd, 1) := by decide +kernel
theorem dX12_readAddress_162 : decode cX12_readAddress 162 = .ok (.bipush 48, 2) := by decide +kernel
theorem dX12_readAddress_164 : decode cX12_readAddress 164 = .ok (.isub, 1) := by decide +kernel
theorem dX12_readAddress_165 : decode cX12_readAddress 165 = .ok (.goto 4, 3) := by decide +kernel
theorem dX12_readAddress_168 : decode cX12_readAddress 168 = .ok (.iconst 0, 1) := by decide +kernel
theorem dX12_readAddress_169 : decode cX12_readAddress 169 = .ok (.istore_n 3, 1) := by decide +kernel
theorem dX12_readAddress_170 : decode cX12_readAddress 170 = .ok (.iload 4, 2) := by decide +kernel
theorem dX12_readAddress_172 : decode cX12_readAddress 172 = .ok (.ifCond .eq 14, 3) := by decide +kernel
theorem dX12_readAddress_175 : decode cX12_readAddress 175 = .ok (.iload_n 3, 1) := by decide +kernel
theorem dX12_readAddress_176 : decode cX12_readAddress 176 = .ok (.sipush 256, 3) := by decide +kernel
theorem dX12_readAddress_179 : decode cX12_readAddress 179 = .ok (.if_icmp .ge 7, 3) := by decide +kernel
theorem dX12_readAddress_182 : decode cX12_readAddress 182 = .ok (.iconst 1, 1) := by decide +kernel
theorem dX12_readAddress_183 : decode cX12_readAddress 183 = .ok (.goto 4, 3) := by decide +kernel
theorem dX12_readAddress_186 : decode cX12_readAddress 186 = .ok (.iconst 0, 1) := by decide +kernel
theorem dX12_readAddress_187 : decode cX12_readAddress 187 = .ok (.istore 4, 2) := by decide +kernel
theorem dX12_readAddress_189 : decode cX12_readAddress 189 = .ok (.iload 4, 2) := by decide +kernel
theorem dX12_readAddress_191 : decode cX12_readAddress 191 = .ok (.ifCond .eq 12, 3) := by decide +kernel
theorem dX12_readAddress_194 : decode cX12_readAddress 194 = .ok (.iload_n 1, 1) := by decide +kernel
theorem dX12_readAddress_195 : decode cX12_readAddress 195 = .ok (.iconst 5, 1) := by decide +kernel
theorem dX12_readAddress_196 : decode cX12_readAddress 196 = .ok (.if_icmp .ge 7, 3) := by decide +kernel
theorem dX12_readAddress_199 : decode cX12_readAddress 199 = .ok (.iconst 1, 1) := by decide +kernel
theorem dX12_readAddress_200 : decode cX12_readAddress 200 = .ok (.goto 4, 3) := by decide +kernel
theorem dX12_readAddress_203 : decode cX12_readAddress 203 = .ok (.iconst 0, 1) := by decide +kernel
theorem dX12_readAddress_204 : decode cX12_readAddress 204 = .ok (.istore 4, 2) := by decide +kernel
theorem dX12_readAddress_206 : decode cX12_readAddress 206 = .ok (.goto (-192), 3) := by decide +kernel
theorem dX12_readAddress_209 : decode cX12_readAddress 209 = .ok (.aload_n 0, 1) := by decide +kernel
theorem dX12_readAddress_210 : decode cX12_readAddress 210 = .ok (.aload_n 0, 1) := by decide +kernel
theorem dX12_readAddress_211 : decode cX12_readAddress 211 = .ok (.getfield 143, 3) := by decide +kernel
theorem dX12_readAddress_214 : decode cX12_readAddress 214 = .ok (.bipush 8, 2) := by decide +kernel
theorem dX12_readAddress_216 : decode cX12_readAddress 216 = .ok (.lshl, 1) := by decide +kernel
theorem dX12_readAddress_217 : decode cX12_readAddress 217 = .ok (.iload_n 3, 1) := by decide +kernel
theorem dX12_readAddress_218 : decode cX12_readAddress 218 = .ok (.i2l, 1) := by decide +kernel
theorem dX12_readAddress_219 : decode cX12_readAddress 219 = .ok (.lor, 1) := by decide +kernel
theorem dX12_readAddress_220 : decode cX12_readAddress 220 = .ok (.putfield 143, 3) := by decide +kernel
theorem dX12_readAddress_223 : decode cX12_readAddress 223 = .ok (.aload_n 0, 1) := by decide +kernel
theorem dX12_readAddress_224 : decode cX12_readAddress 224 = .ok (.iload 4, 2) := by decide +kernel
theorem dX12_readAddress_226 : decode cX12_readAddress 226 = .ok (.ifCond .eq 16, 3) := by decide +kernel
theorem dX12_readAddress_229 : decode cX12_readAddress 229 = .ok (.iload_n 1, 1) := by decide +kernel
theorem dX12_readAddress_230 : decode cX12_readAddress 230 = .ok (.iconst 4, 1) := by decide +kernel
theorem dX12_readAddress_231 : decode cX12_readAddress 231 = .ok (.if_icmp .ne 11, 3) := by decide +kernel
theorem dX12_readAddress_234 : decode cX12_readAddress 234 = .ok (.iload_n 2, 1) := by decide +kernel
theorem dX12_readAddress_235 : decode cX12_readAddress 235 = .ok (.ifCond .le 7, 3) := by decide +kernel
theorem dX12_readAddress_238 : decode cX12_readAddress 238 = .ok (.iconst 3, 1) := by decide +kernel
theorem dX12_readAddress_239 : decode cX12_readAddress 239 = .ok (.goto 4, 3) := by decide +kernel
theorem dX12_readAddress_242 : decode cX12_readAddress 242 = .ok (.iconst 5, 1) := by decide +kernel
theorem dX12_readAddress_243 : decode cX12_readAddress 243 = .ok (.putfield 120, 3) := by decide +kernel
theorem dX12_readAddress_246 : decode cX12_readAddress 246 = .ok (.return_, 1) := by decide +kernel
theorem e_X12_readAddress_189 {X : gk_X} {F : Nat} {k14 : Nat → Int32 → Int32 → Int32 → Int32 → gk_S → Option (Unit × gk_S)} (hk14 : ∀ (l0 : Nat) (l1 : Int32) (l2 : Int32) (l3 : Int32) (l4 : Int32) (S : gk_S) (r : (Unit × gk_S)), k14 l0 l1 l2 l3 l4 S = some r → EvW X m_X12_readAddress 2 0 0 14 [some (.ref l0), some (.int l1), some (.int l2), some (.int l3), some (.int l4), none] [] S (qRU r)) {l0 : Nat} {l1 : Int32} {l2 : Int32} {l3 : Int32} {l4 : Int32} {S : gk_S} {r : (Unit × gk_S)} (h0 : f_X12_readAddress_189 F k14 l0 l1 l2 l3 l4 S = some r) : EvW X m_X12_readAddress 2 0 0 189 [some (.ref l0), some (.int l1), some (.int l2), some (.int l3), some (.int l4), none] [] S (qRU r) := by
  unfold f_X12_readAddress_189 at h0
  refine ev_iload (pc := 189) (i := 4) rfl dX12_readAddress_189 ?_
  refine ev_if_eq (pc := 191) (tgt := 203) (by decide) dX12_readAddress_191 (fun c46 => ?_) (fun c46 => ?_)
  · replace h0 := qi_t h0 c46
    refine ev_iconst (pc := 203) (v := 0) (by decide) dX12_readAddress_203 ?_
    refine ev_istore (pc := 204) (L' := [some (.ref l0), some (.int l1), some (.int l2), some (.int l3), some (.int 0), none]) (i := 4) (by decide) rfl rfl dX12_readAddress_204 ?_
    refine ev_goto (pc := 206) (tgt := 14) (by decide) dX12_readAddress_206 ?_
    exact ev_weak (qL_s (qL_s (qL_s (qL_s (qL_s (qL_n qL_nil)))))) (hk14 _ _ _ _ _ _ _ h0)
  · replace h0 := qi_f h0 c46
    refine ev_iload_n (pc := 194) (i := 1) rfl rfl dX12_readAddress_194 ?_
    refine ev_iconst (pc := 195) (v := 5) (by decide) dX12_readAddress_195 ?_
    refine ev_ic_ge (pc := 196) (tgt := 203) (by decide) dX12_readAddress_196 (fun c48 => ?_) (fun c48 => ?_)
    · replace h0 := qi_t h0 c48
      refine ev_iconst (pc := 203) (v := 0) (by decide) dX12_readAddress_203 ?_
      refine ev_istore (pc := 204) (L' := [some (.ref l0), some (.int l1), some (.int l2), some (.int l3), some (.int 0), none]) (i := 4) (by decide) rfl rfl dX12_readAddress_204 ?_
      refine ev_goto (pc := 206) (tgt := 14) (by decide) dX12_readAddress_206 ?_
      exact ev_weak (qL_s (qL_s (qL_s (qL_s (qL_s (qL_n qL_nil)))))) (hk14 _ _ _ _ _ _ _ h0)
    · replace h0 := qi_f h0 c48
      refine ev_iconst (pc := 199) (v := 1) (by decide) dX12_readAddress_199 ?_
      refine ev_goto (pc := 200) (tgt := 204) (by decide) dX12_readAddress_200 ?_
      refine ev_istore (pc := 204) (L' := [some (.ref l0), some (.int l1), some (.int l2), some (.int l3), some (.int 1), none]) (i := 4) (by decide) rfl rfl dX12_readAddress_204 ?_
      refine ev_goto (pc := 206) (tgt := 14) (by decide) dX12_readAddress_206 ?_
      exact ev_weak (qL_s (qL_s (qL_s (qL_s (qL_s (qL_n qL_nil)))))) (hk14 _ _ _ _ _ _ _ h0)
theorem e_X12_readAddress_169 {X : gk_X} {F : Nat} {k14 : Nat → Int32 → Int32 → Int32 → Int32 → gk_S → Option (Unit × gk_S)} (hk14 : ∀ (l0 : Nat) (l1 : Int32) (l2 : Int32) (l3 : Int32) (l4 : Int32) (S : gk_S) (r : (Unit × gk_S)), k14 l0 l1 l2 l3 l4 S = some r → EvW X m_X12_readAddress 2 0 0 14 [some (.ref l0), some (.int l1), some (.int l2), some (.int l3), some (.int l4), none] [] S (qRU r)) {l0 : Nat} {l1 : Int32} {l2 : Int32} {l4 : Int32} {s0 : Int32} {S : gk_S} {r : (Unit × gk_S)} (h0 : f_X12_readAddress_169 F k14 l0 l1 l2 l4 s0 S = some r) : EvW X m_X12_readAddress 2 0 0 169 [some (.ref l0), some (.int l1), some (.int l2), none, some (.int l4), none] [.int s0] S (qRU r) := by
  unfold f_X12_readAddress_169 at h0
  refine ev_istore_n (pc := 169) (L' := [some (.ref l0), some (.int l1), some (.int l2), some (.int s0), some (.int l4), none]) (i := 3) rfl (by decide) rfl rfl dX12_readAddress_169 ?_
  refine ev_iload (pc := 170) (i := 4) rfl dX12_readAddress_170 ?_
  refine ev_if_eq (pc := 172) (tgt := 186) (by decide) dX12_readAddress_172 (fun c44 => ?_) (fun c44 => ?_)
  · replace h0 := qi_t h0 c44
    refine ev_iconst (pc := 186) (v := 0) (by decide) dX12_readAddress_186 ?_
    refine ev_istore (pc := 187) (L' := [some (.ref l0), some (.int l1), some (.int l2), some (.int s0), some (.int 0), none]) (i := 4) (by decide) rfl rfl dX12_readAddress_187 ?_
    exact ev_weak (qL_s (qL_s (qL_s (qL_s (qL_s (qL_n qL_nil)))))) (e_X12_readAddress_189 hk14 h0)
  · replace h0 := qi_f h0 c44
    refine ev_iload_n (pc := 175) (i := 3) rfl rfl dX12_readAddress_175 ?_
    refine ev_sipush (pc := 176) (v := 256) (by decide) dX12_readAddress_176 ?_
    refine ev_ic_ge (pc := 179) (tgt := 186) (by decide) dX12_readAddress_179 (fun c50 => ?_) (fun c50 => ?_)
    · replace h0 := qi_t h0 c50
      refine ev_iconst (pc := 186) (v := 0) (by decide) dX12_readAddress_186 ?_
      refine ev_istore (pc := 187) (L' := [some (.ref l0), some (.int l1), some (.int l2), some (.int s0), some (.int 0), none]) (i := 4) (by decide) rfl rfl dX12_readAddress_187 ?_
      exact ev_weak (qL_s (qL_s (qL_s (qL_s (qL_s (qL_n qL_nil)))))) (e_X12_readAddress_189 hk14 h0)
    · replace h0 := qi_f h0 c50
      refine ev_iconst (pc := 182) (v := 1) (by decide) dX12_readAddress_182 ?_
      refine ev_goto (pc := 183) (tgt := 187) (by decide) dX12_readAddress_183 ?_
      refine ev_istore (pc := 187) (L' := [some (.ref l0), some (.int l1), some (.int l2), some (.int s0), some (.int 1), none]) (i := 4) (by decide) rfl rfl dX12_readAddress_187 ?_
      exact ev_weak (qL_s (qL_s (qL_s (qL_s (qL_s (qL_n qL_nil)))))) (e_X12_readAddress_189 hk14 h0)
theorem e_X12_readAddress_148 {X : gk_X} {F : Nat} {k14 : Nat → Int32 → Int32 → Int32 → Int32 → gk_S → Option (Unit × gk_S)} (hk14 : ∀ (l0 : Nat) (l1 : Int32) (l2 : Int32) (l3 : Int32) (l4 : Int32) (S : gk_S) (r : (Unit × gk_S)), k14 l0 l1 l2 l3 l4 S = some r → EvW X m_X12_readAddress 2 0 0 14 [some (.ref l0), some (.int l1), some (.int l2), some (.int l3), some (.int l4), none] [] S (qRU r)) {l0 : Nat} {l1 : Int32} {l2 : Int32} {l3 : Int32} {l5 : Int32} {s0 : Int32} {S : gk_S} {r : (Unit × gk_S)} (h0 : f_X12_readAddress_148 F k14 l0 l1 l2 l3 l5 s0 S = some r) : EvW X m_X12_readAddress 2 0 0 148 [some (.ref l0), some (.int l1), some (.int l2), some (.int l3), none, some (.int l5)] [.int s0] S (qRU r) := by
  unfold f_X12_readAddress_148 at h0
  refine ev_istore (pc := 148) (L' := [some (.ref l0), some (.int l1), some (.int l2), some (.int l3), some (.int s0), some (.int l5)]) (i := 4) (by decide) rfl rfl dX12_readAddress_148 ?_
  refine ev_iload (pc := 150) (i := 4) rfl dX12_readAddress_150 ?_
  refine ev_if_eq (pc := 152) (tgt := 168) (by decide) dX12_readAddress_152 (fun c42 => ?_) (fun c42 => ?_)
  · replace h0 := qi_t h0 c42
    refine ev_iconst (pc := 168) (v := 0) (by decide) dX12_readAddress_168 ?_
    exact ev_weak (qL_s (qL_s (qL_s (qL_n (qL_s (qL_n qL_nil)))))) (e_X12_readAddress_169 hk14 h0)
  · replace h0 := qi_f h0 c42
    refine ev_bipush (pc := 155) (v := 10) (by decide) dX12_readAddress_155 ?_
    refine ev_iload_n (pc := 157) (i := 3) rfl rfl dX12_readAddress_157 ?_
    refine ev_imul (pc := 158)  dX12_readAddress_158 ?_
    refine ev_iload (pc := 159) (i := 5) rfl dX12_readAddress_159 ?_
    refine ev_iadd (pc := 161)  dX12_readAddress_161 ?_
    refine ev_bipush (pc := 162) (v := 48) (by decide) dX12_readAddress_162 ?_
    refine ev_isub (pc := 164)  dX12_readAddress_164 ?_
    refine ev_goto (pc := 165) (tgt := 169) (by decide) dX12_readAddress_165 ?_
    exact ev_weak (qL_s (qL_s (qL_s (qL_n (qL_s (qL_n qL_nil)))))) (e_X12_readAddress_169 hk14 h0)
theorem e_X12_readAddress_96 {X : gk_X} {F : Nat} {k14 : Nat → Int32 → Int32 → Int32 → Int32 → gk_S → Option (Unit × gk_S)} (hk14 : ∀ (l0 : Nat) (l1 : Int32) (l2 : Int32) (l3 : Int32) (l4 : Int32) (S : gk_S) (r : (Unit × gk_S)), k14 l0 l1 l2 l3 l4 S = some r → EvW X m_X12_readAddress 2 0 0 14 [some (.ref l0), some (.int l1), some (.int l2), some (.int l3), some (.int l4), none] [] S (qRU r)) {l0 : Nat} {l1 : Int32} {l3 : Int32} {s0 : Int32} {S : gk_S} {r : (Unit × gk_S)} (h0 : f_X12_readAddress_96 F k14 l0 l1 l3 s0 S = some r) : EvW X m_X12_readAddress 2 0 0 96 [some (.ref l0), some (.int l1), none, some (.int l3), none, none] [.int s0] S (qRU r) := by
  unfold f_X12_readAddress_96 at h0
  refine ev_istore (pc := 96) (L' := [some (.ref l0), some (.int l1), none, some (.int l3), some (.int s0), none]) (i := 4) (by decide) rfl rfl dX12_readAddress_96 ?_
  refine ev_aload_n (pc := 98) (i := 0) rfl rfl rfl dX12_readAddress_98 ?_
  refine ev_aload_n (pc := 99) (i := 0) rfl rfl rfl dX12_readAddress_99 ?_
  obtain ⟨g62, h63⟩ := qk_el h0; clear h0
  obtain ⟨x64, e65, h66⟩ := qv_el h63; clear h63
  refine xv_getJv (pc := 100) fn_917 (isb_el g62) e65 gw_1157 dX12_readAddress_100 ?_
  refine ev_bipush (pc := 103) (v := 8) (by decide) dX12_readAddress_103 ?_
  refine ev_lshl (pc := 105)  dX12_readAddress_105 ?_
  refine ev_iload_n (pc := 106) (i := 3) rfl rfl dX12_readAddress_106 ?_
  refine ev_i2l (pc := 107)  dX12_readAddress_107 ?_
  refine ev_lor (pc := 108)  dX12_readAddress_108 ?_
  obtain ⟨x67, e68, h69⟩ := qv_el h66; clear h66
  refine xv_topl e68 ?_
  obtain ⟨S70, e71, h72⟩ := qv_el h69; clear h69
  refine yv_putJ (pc := 109) fn_917 (isb_el g62) e71 gw_1157 dX12_readAddress_109 ?_
  refine ev_iinc (pc := 112) (L' := [some (.ref l0), some (.int (l1 + 1)), none, some (.int l3), some (.int s0), none]) (i := 1) (v := (l1 + 1)) rfl rfl (by decide) rfl rfl dX12_readAddress_112 ?_
  refine ev_iconst (pc := 115) (v := 0) (by decide) dX12_readAddress_115 ?_
  refine ev_istore_n (pc := 116) (L' := [some (.ref l0), some (.int (l1 + 1)), some (.int 0), some (.int l3), some (.int s0), none]) (i := 2) rfl (by decide) rfl rfl dX12_readAddress_116 ?_
  refine ev_iconst (pc := 117) (v := 0) (by decide) dX12_readAddress_117 ?_
  refine ev_istore_n (pc := 118) (L' := [some (.ref l0), some (.int (l1 + 1)), some (.int 0), some (.int 0), some (.int s0), none]) (i := 3) rfl (by decide) rfl rfl dX12_readAddress_118 ?_
  refine ev_goto (pc := 119) (tgt := 189) (by decide) dX12_readAddress_119 ?_
  exact ev_weak (qL_s (qL_s (qL_s (qL_s (qL_s (qL_n qL_nil)))))) (e_X12_readAddress_189 hk14 h72)
theorem e_X12_readAddress_55 {X : gk_X} {F : Nat} {k14 : Nat → Int32 → Int32 → Int32 → Int32 → gk_S → Option (Unit × gk_S)} (hk14 : ∀ (l0 : Nat) (l1 : Int32) (l2 : Int32) (l3 : Int32) (l4 : Int32) (S : gk_S) (r : (Unit × gk_S)), k14 l0 l1 l2 l3 l4 S = some r → EvW X m_X12_readAddress 2 0 0 14 [some (.ref l0), some (.int l1), some (.int l2), some (.int l3), some (.int l4), none] [] S (qRU r)) {l0 : Nat} {l1 : Int32} {l2 : Int32} {l3 : Int32} {l4 : Int32} {S : gk_S} {r : (Unit × gk_S)} (h0 : f_X12_readAddress_55 F k14 l0 l1 l2 l3 l4 S = some r) : EvW X m_X12_readAddress 2 0 0 55 [some (.ref l0), some (.int l1), some (.int l2), some (.int l3), some (.int l4), none] [] S (qRU r) := by
  unfold f_X12_readAddress_55 at h0
  refine ev_aload_n (pc := 55) (i := 0) rfl rfl rfl dX12_readAddress_55 ?_
  refine ev_aload_n (pc := 56) (i := 0) rfl rfl rfl dX12_readAddress_56 ?_
  obtain ⟨g21, h22⟩ := qk_el h0; clear h0
  obtain ⟨x23, e24, h25⟩ := qv_el h22; clear h22
  refine xv_getIv (pc := 57) fn_904 (isb_el g21) e24 gw_1144 dX12_readAddress_57 ?_
  obtain ⟨x26, S27, e28, h29⟩ := qc_el h25; clear h25
  refine xv_callV (pc := 60) (st := []) (as := [.int x23]) (v := (some (.int x26))) (S' := S27) ok_X12_byteAt (e_X12_byteAt e28) (isb_el g21) (by decide) rfl (Nat.le_of_ble_eq_true rfl) rfl gw_1280 dX12_readAddress_60 ?_
  refine ev_istore (pc := 63) (L' := [some (.ref l0), some (.int l1), some (.int l2), some (.int l3), some (.int l4), some (.int x26)]) (i := 5) (by decide) rfl rfl dX12_readAddress_63 ?_
  refine ev_aload_n (pc := 65) (i := 0) rfl rfl rfl dX12_readAddress_65 ?_
  refine ev_dup (pc := 66) (.inr rfl) dX12_readAddress_66 ?_
  obtain ⟨g30, h31⟩ := qk_el h29; clear h29
  obtain ⟨x32, e33, h34⟩ := qv_el h31; clear h31
  refine xv_getIv (pc := 67) fn_904 (isb_el g30) e33 gw_1144 dX12_readAddress_67 ?_
  refine ev_iconst (pc := 70) (v := 1) (by decide) dX12_readAddress_70 ?_
  refine ev_iadd (pc := 71)  dX12_readAddress_71 ?_
  obtain ⟨S35, e36, h37⟩ := qv_el h34; clear h34
  refine yv_putI (pc := 72) fn_904 ⟨rfl, rfl⟩ (isb_el g30) e36 gw_1144 dX12_readAddress_72 ?_
  refine ev_iload (pc := 75) (i := 5) rfl dX12_readAddress_75 ?_
  refine ev_bipush (pc := 77) (v := 46) (by decide) dX12_readAddress_77 ?_
  refine ev_ic_ne (pc := 79) (tgt := 122) (by decide) dX12_readAddress_79 (fun c38 => ?_) (fun c38 => ?_)
  · replace h37 := qi_f h37 c38
    refine ev_iinc (pc := 122) (L' := [some (.ref l0), some (.int l1), some (.int (l2 + 1)), some (.int l3), some (.int l4), some (.int x26)]) (i := 2) (v := (l2 + 1)) rfl rfl (by decide) rfl rfl dX12_readAddress_122 ?_
    refine ev_iload (pc := 125) (i := 4) rfl dX12_readAddress_125 ?_
    refine ev_if_eq (pc := 127) (tgt := 147) (by decide) dX12_readAddress_127 (fun c40 => ?_) (fun c40 => ?_)
    · replace h37 := qi_t h37 c40
      refine ev_iconst (pc := 147) (v := 0) (by decide) dX12_readAddress_147 ?_
      exact ev_weak (qL_s (qL_s (qL_s (qL_s (qL_n (qL_s qL_nil)))))) (e_X12_readAddress_148 hk14 h37)
    · replace h37 := qi_f h37 c40
      refine ev_iload (pc := 130) (i := 5) rfl dX12_readAddress_130 ?_
      obtain ⟨x52, S53, e54, h55⟩ := qc_el h37; clear h37
      refine xv_callS (pc := 132) (st := []) (as := [.int x26]) (v := (some (.int x52))) (S' := S53) ok_X12_isDigit (e_X12_isDigit e54) (by decide) rfl (Nat.le_of_ble_eq_true rfl) rfl gw_1291 dX12_readAddress_132 ?_
      refine ev_if_eq (pc := 135) (tgt := 147) (by decide) dX12_readAddress_135 (fun c56 => ?_) (fun c56 => ?_)
      · replace h55 := qi_t h55 c56
        refine ev_iconst (pc := 147) (v := 0) (by decide) dX12_readAddress_147 ?_
        exact ev_weak (qL_s (qL_s (qL_s (qL_s (qL_n (qL_s qL_nil)))))) (e_X12_readAddress_148 hk14 h55)
      · replace h55 := qi_f h55 c56
        refine ev_iload_n (pc := 138) (i := 2) rfl rfl dX12_readAddress_138 ?_
        refine ev_iconst (pc := 139) (v := 4) (by decide) dX12_readAddress_139 ?_
        refine ev_ic_ge (pc := 140) (tgt := 147) (by decide) dX12_readAddress_140 (fun c58 => ?_) (fun c58 => ?_)
        · replace h55 := qi_t h55 c58
          refine ev_iconst (pc := 147) (v := 0) (by decide) dX12_readAddress_147 ?_
          exact ev_weak (qL_s (qL_s (qL_s (qL_s (qL_n (qL_s qL_nil)))))) (e_X12_readAddress_148 hk14 h55)
        · replace h55 := qi_f h55 c58
          refine ev_iconst (pc := 143) (v := 1) (by decide) dX12_readAddress_143 ?_
          refine ev_goto (pc := 144) (tgt := 148) (by decide) dX12_readAddress_144 ?_
          exact ev_weak (qL_s (qL_s (qL_s (qL_s (qL_n (qL_s qL_nil)))))) (e_X12_readAddress_148 hk14 h55)
  · replace h37 := qi_t h37 c38
    refine ev_iload (pc := 82) (i := 4) rfl dX12_readAddress_82 ?_
    refine ev_if_eq (pc := 84) (tgt := 95) (by decide) dX12_readAddress_84 (fun c60 => ?_) (fun c60 => ?_)
    · replace h37 := qi_t h37 c60
      refine ev_iconst (pc := 95) (v := 0) (by decide) dX12_readAddress_95 ?_
      exact ev_weak (qL_s (qL_s (qL_n (qL_s (qL_n (qL_n qL_nil)))))) (e_X12_readAddress_96 hk14 h37)
    · replace h37 := qi_f h37 c60
      refine ev_iload_n (pc := 87) (i := 2) rfl rfl dX12_readAddress_87 ?_
      refine ev_if_le (pc := 88) (tgt := 95) (by decide) dX12_readAddress_88 (fun c73 => ?_) (fun c73 => ?_)
      · replace h37 := qi_t h37 c73
        refine ev_iconst (pc := 95) (v := 0) (by decide) dX12_readAddress_95 ?_
        exact ev_weak (qL_s (qL_s (qL_n (qL_s (qL_n (qL_n qL_nil)))))) (e_X12_readAddress_96 hk14 h37)
      · replace h37 := qi_f h37 c73
        refine ev_iconst (pc := 91) (v := 1) (by decide) dX12_readAddress_91 ?_
        refine ev_goto (pc := 92) (tgt := 96) (by decide) dX12_readAddress_92 ?_
        exact ev_weak (qL_s (qL_s (qL_n (qL_s (qL_n (qL_n qL_nil)))))) (e_X12_readAddress_96 hk14 h37)
theorem e_X12_readAddress_14 {X : gk_X} {F : Nat} : ∀ (n : Nat) (l0 : Nat) (l1 : Int32) (l2 : Int32) (l3 : Int32) (l4 : Int32) (S : gk_S) (r : (Unit × gk_S)), f_X12_readAddress_14 F n l0 l1 l2 l3 l4 S = some r → EvW X m_X12_readAddress 2 0 0 14 [some (.ref l0), some (.int l1), some (.int l2), some (.int l3), some (.int l4), none] [] S (qRU r) := by
  intro n
  induction n with
  | zero => intro l0 l1 l2 l3 l4 S r h0; rw [f_X12_readAddress_14] at h0; cases h0
  | succ n ih =>
    intro l0 l1 l2 l3 l4 S r h0; rw [f_X12_readAddress_14] at h0
    refine ev_aload_n (pc := 14) (i := 0) rfl rfl rfl dX12_readAddress_14 ?_
    refine ev_aload_n (pc := 15) (i := 0) rfl rfl rfl dX12_readAddress_15 ?_
    obtain ⟨g6, h7⟩ := qk_el h0; clear h0
    obtain ⟨x8, e9, h10⟩ := qv_el h7; clear h7
    refine xv_getIv (pc := 16) fn_904 (isb_el g6) e9 gw_1144 dX12_readAddress_16 ?_
    obtain ⟨x11, S12, e13, h14⟩ := qc_el h10; clear h10
    refine xv_callV (pc := 19) (st := []) (as := [.int x8]) (v := (some (.int x11))) (S' := S12) ok_X12_byteAt (e_X12_byteAt e13) (isb_el g6) (by decide) rfl (Nat.le_of_ble_eq_true rfl) rfl gw_1280 dX12_readAddress_19 ?_
    obtain ⟨x15, S16, e17, h18⟩ := qc_el h14; clear h14
    refine xv_callS (pc := 22) (st := []) (as := [.int x11]) (v := (some (.int x15))) (S' := S16) ok_X12_isSmall (e_X12_isSmall e17) (by decide) rfl (Nat.le_of_ble_eq_true rfl) rfl gw_1284 dX12_readAddress_22 ?_
    refine ev_if_ne (pc := 25) (tgt := 55) (by decide) dX12_readAddress_25 (fun c19 => ?_) (fun c19 => ?_)
    · replace h18 := qi_f h18 c19
      exact ev_weak (qL_s (qL_s (qL_s (qL_s (qL_s (qL_n qL_nil)))))) (e_X12_readAddress_55 ih h18)
    · replace h18 := qi_t h18 c19
      refine ev_aload_n (pc := 28) (i := 0) rfl rfl rfl dX12_readAddress_28 ?_
      refine ev_aload_n (pc := 29) (i := 0) rfl rfl rfl dX12_readAddress_29 ?_
      obtain ⟨g75, h76⟩ := qk_el h18; clear h18
      obtain ⟨x77, e78, h79⟩ := qv_el h76; clear h76
      refine xv_getIv (pc := 30) fn_904 (isb_el g75) e78 gw_1144 dX12_readAddress_30 ?_
      obtain ⟨x80, S81, e82, h83⟩ := qc_el h79; clear h79
      refine xv_callV (pc := 33) (st := []) (as := [.int x77]) (v := (some (.int x80))) (S' := S81) ok_X12_byteAt (e_X12_byteAt e82) (isb_el g75) (by decide) rfl (Nat.le_of_ble_eq_true rfl) rfl gw_1280 dX12_readAddress_33 ?_
      obtain ⟨x84, S85, e86, h87⟩ := qc_el h83; clear h83
      refine xv_callS (pc := 36) (st := []) (as := [.int x80]) (v := (some (.int x84))) (S' := S85) ok_X12_isDigit (e_X12_isDigit e86) (by decide) rfl (Nat.le_of_ble_eq_true rfl) rfl gw_1291 dX12_readAddress_36 ?_
      refine ev_if_ne (pc := 39) (tgt := 55) (by decide) dX12_readAddress_39 (fun c88 => ?_) (fun c88 => ?_)
      · replace h87 := qi_f h87 c88
        exact ev_weak (qL_s (qL_s (qL_s (qL_s (qL_s (qL_n qL_nil)))))) (e_X12_readAddress_55 ih h87)
      · replace h87 := qi_t h87 c88
        refine ev_aload_n (pc := 42) (i := 0) rfl rfl rfl dX12_readAddress_42 ?_
        refine ev_aload_n (pc := 43) (i := 0) rfl rfl rfl dX12_readAddress_43 ?_
        obtain ⟨g90, h91⟩ := qk_el h87; clear h87
        obtain ⟨x92, e93, h94⟩ := qv_el h91; clear h91
        refine xv_getIv (pc := 44) fn_904 (isb_el g90) e93 gw_1144 dX12_readAddress_44 ?_
        obtain ⟨x95, S96, e97, h98⟩ := qc_el h94; clear h94
        refine xv_callV (pc := 47) (st := []) (as := [.int x92]) (v := (some (.int x95))) (S' := S96) ok_X12_byteAt (e_X12_byteAt e97) (isb_el g90) (by decide) rfl (Nat.le_of_ble_eq_true rfl) rfl gw_1280 dX12_readAddress_47 ?_
        refine ev_bipush (pc := 50) (v := 46) (by decide) dX12_readAddress_50 ?_
        refine ev_ic_ne (pc := 52) (tgt := 209) (by decide) dX12_readAddress_52 (fun c99 => ?_) (fun c99 => ?_)
        · replace h98 := qi_f h98 c99
          refine ev_aload_n (pc := 209) (i := 0) rfl rfl rfl dX12_readAddress_209 ?_
          refine ev_aload_n (pc := 210) (i := 0) rfl rfl rfl dX12_readAddress_210 ?_
          obtain ⟨g101, h102⟩ := qk_el h98; clear h98
          obtain ⟨x103, e104, h105⟩ := qv_el h102; clear h102
          refine xv_getJv (pc := 211) fn_917 (isb_el g101) e104 gw_1157 dX12_readAddress_211 ?_
          refine ev_bipush (pc := 214) (v := 8) (by decide) dX12_readAddress_214 ?_
          refine ev_lshl (pc := 216)  dX12_readAddress_216 ?_
          refine ev_iload_n (pc := 217) (i := 3) rfl rfl dX12_readAddress_217 ?_
          refine ev_i2l (pc := 218)  dX12_readAddress_218 ?_
          refine ev_lor (pc := 219)  dX12_readAddress_219 ?_
          obtain ⟨x106, e107, h108⟩ := qv_el h105; clear h105
          refine xv_topl e107 ?_
          obtain ⟨S109, e110, h111⟩ := qv_el h108; clear h108
          refine yv_putJ (pc := 220) fn_917 (isb_el g101) e110 gw_1157 dX12_readAddress_220 ?_
          refine ev_aload_n (pc := 223) (i := 0) rfl rfl rfl dX12_readAddress_223 ?_
          refine ev_iload (pc := 224) (i := 4) rfl dX12_readAddress_224 ?_
          refine ev_if_eq (pc := 226) (tgt := 242) (by decide) dX12_readAddress_226 (fun c112 => ?_) (fun c112 => ?_)
          · replace h111 := qi_t h111 c112
            refine ev_iconst (pc := 242) (v := 5) (by decide) dX12_readAddress_242 ?_
            obtain ⟨S114, e115, h116⟩ := qv_el h111; clear h111
            refine yv_putI (pc := 243) fn_914 ⟨rfl, rfl⟩ (is_sJ (isb_el g101) e110) e115 gw_1154 dX12_readAddress_243 ?_
            exact ev_return (pc := 246) rfl (qRU_eq h116) dX12_readAddress_246
          · replace h111 := qi_f h111 c112
            refine ev_iload_n (pc := 229) (i := 1) rfl rfl dX12_readAddress_229 ?_
            refine ev_iconst (pc := 230) (v := 4) (by decide) dX12_readAddress_230 ?_
            refine ev_ic_ne (pc := 231) (tgt := 242) (by decide) dX12_readAddress_231 (fun c117 => ?_) (fun c117 => ?_)
            · replace h111 := qi_f h111 c117
              refine ev_iconst (pc := 242) (v := 5) (by decide) dX12_readAddress_242 ?_
              obtain ⟨S119, e120, h121⟩ := qv_el h111; clear h111
              refine yv_putI (pc := 243) fn_914 ⟨rfl, rfl⟩ (is_sJ (isb_el g101) e110) e120 gw_1154 dX12_readAddress_243 ?_
              exact ev_return (pc := 246) rfl (qRU_eq h121) dX12_readAddress_246
            · replace h111 := qi_t h111 c117
              refine ev_iload_n (pc := 234) (i := 2) rfl rfl dX12_readAddress_234 ?_
              refine ev_if_le (pc := 235) (tgt := 242) (by decide) dX12_readAddress_235 (fun c122 => ?_) (fun c122 => ?_)
              · replace h111 := qi_t h111 c122
                refine ev_iconst (pc := 242) (v := 5) (by decide) dX12_readAddress_242 ?_
                obtain ⟨S124, e125, h126⟩ := qv_el h111; clear h111
                refine yv_putI (pc := 243) fn_914 ⟨rfl, rfl⟩ (is_sJ (isb_el g101) e110) e125 gw_1154 dX12_readAddress_243 ?_
                exact ev_return (pc := 246) rfl (qRU_eq h126) dX12_readAddress_246
              · replace h111 := qi_f h111 c122
                refine ev_iconst (pc := 238) (v := 3) (by decide) dX12_readAddress_238 ?_
                refine ev_goto (pc := 239) (tgt := 243) (by decide) dX12_readAddress_239 ?_
                obtain ⟨S127, e128, h129⟩ := qv_el h111; clear h111
                refine yv_putI (pc := 243) fn_914 ⟨rfl, rfl⟩ (is_sJ (isb_el g101) e110) e128 gw_1154 dX12_readAddress_243 ?_
                exact ev_return (pc := 246) rfl (qRU_eq h129) dX12_readAddress_246
        · replace h98 := qi_t h98 c99
          exact ev_weak (qL_s (qL_s (qL_s (qL_s (qL_s (qL_n qL_nil)))))) (e_X12_readAddress_55 ih h98)
theorem e_X12_readAddress {X : gk_X} {F : Nat} {S : gk_S} {a : Nat} {r : (Unit × gk_S)} (h0 : f_X12_readAddress F S a = some r) : EvM X m_X12_readAddress 2 0 0 [.ref a] S (qRU r) := by
  unfold f_X12_readAddress at h0
  refine ev_method (by decide +kernel) rfl rfl (Nat.le_of_ble_eq_true rfl) ?_
  show EvW X m_X12_readAddress 2 0 0 0 [some (.ref a), none, none, none, none, none] [] S _
  refine ev_iconst (pc := 0) (v := 1) (by decide) dX12_readAddress_0 ?_
  refine ev_istore_n (pc := 1) (L' := [some (.ref a), some (.int 1), none, none, none, none]) (i := 1) rfl (by decide) rfl rfl dX12_readAddress_1 ?_
  refine ev_iconst (pc := 2) (v := 0) (by decide) dX12_readAddress_2 ?_
  refine ev_istore_n (pc := 3) (L' := [some (.ref a), some (.int 1), some (.int 0), none, none, none]) (i := 2) rfl (by decide) rfl rfl dX12_readAddress_3 ?_
  refine ev_iconst (pc := 4) (v := 0) (by decide) dX12_readAddress_4 ?_
  refine ev_istore_n (pc := 5) (L' := [some (.ref a), some (.int 1), some (.int 0), some (.int 0), none, none]) (i := 3) rfl (by decide) rfl rfl dX12_readAddress_5 ?_
  refine ev_iconst (pc := 6) (v := 1) (by decide) dX12_readAddress_6 ?_
  refine ev_istore (pc := 7) (L' := [some (.ref a), some (.int 1), some (.int 0), some (.int 0), some (.int 1), none]) (i := 4) (by decide) rfl rfl dX12_readAddress_7 ?_
  refine ev_aload_n (pc := 9) (i := 0) rfl rfl rfl dX12_readAddress_9 ?_
  refine ev_lconst (pc := 10) (v := 0) (by decide) dX12_readAddress_10 ?_
  obtain ⟨g1, h2⟩ := qk_el h0; clear h0
  obtain ⟨S3, e4, h5⟩ := qv_el h2; clear h2
  refine yv_putJ (pc := 11) fn_917 (isb_el g1) e4 gw_1157 dX12_readAddress_11 ?_
  exact ev_weak (qL_s (qL_s (qL_s (qL_s (qL_s (qL_n qL_nil)))))) (e_X12_readAddress_14 F _ _ _ _ _ _ _ h5)
theorem dX12_readNumber_0 : decode cX12_readNumber 0 = .ok (.aload_n 0, 1) := by decide +kernel
theorem dX12_readNumber_1 : decode cX12_readNumber 1 = .ok (.getfield 110, 3) := by decide +kernel
theorem dX12_readNumber_4 : decode cX12_readNumber 4 = .ok (.istore_n 1, 1) := by decide +kernel
theorem dX12_readNumber_5 : decode cX12_readNumber 5 = .ok (.iconst 1, 1) := by decide +kernel
theorem dX12_readNumber_6 : decode cX12_readNumber 6 = .ok (.istore_n 2, 1) := by decide +kernel
theorem dX12_readNumber_7 : decode cX12_readNumber 7 = .ok (.aload_n 0, 1) := by decide +kernel
theorem dX12_readNumber_8 : decode cX12_readNumber 8 = .ok (.lconst 0, 1) := by decide +kernel
theorem dX12_readNumber_9 : decode cX12_readNumber 9 = .ok (.putfield 143, 3) := by decide +kernel
theorem dX12_readNumber_12 : decode cX12_readNumber 12 = .ok (.aload_n 0, 1) := by decide +kernel
theorem dX12_readNumber_13 : decode cX12_readNumber 13 = .ok (.aload_n 0, 1) := by decide +kernel
theorem dX12_readNumber_14 : decode cX12_readNumber 14 = .ok (.getfield 110, 3) := by decide +kernel
theorem dX12_readNumber_17 : decode cX12_readNumber 17 = .ok (.invokevirtual 113, 3) := by decide +kernel
theorem dX12_readNumber_20 : decode cX12_readNumber 20 = .ok (.invokestatic 130, 3) := by decide +kernel
theorem dX12_readNumber_23 : decode cX12_readNumber 23 = .ok (.ifCond .eq 16, 3) := by decide +kernel
theorem dX12_readNumber_26 : decode cX12_readNumber 26 = .ok (.aload_n 0, 1) := by decide +kernel
theorem dX12_readNumber_27 : decode cX12_readNumber 27 = .ok (.dup, 1) := by decide +kernel
theorem dX12_readNumber_28 : decode cX12_readNumber 28 = .ok (.getfield 110, 3) := by decide +kernel
theorem dX12_readNumber_31 : decode cX12_readNumber 31 = .ok (.iconst 1, 1) := by decide +kernel
theorem dX12_readNumber_32 : decode cX12_readNumber 32 = .ok (.iadd, 1) := by decide +kernel
theorem dX12_readNumber_33 : decode cX12_readNumber 33 = .ok (.putfield 110, 3) := by decide +kernel
theorem dX12_readNumber_36 : decode cX12_readNumber 36 = .ok (.goto (-24), 3) := by decide +kernel
theorem dX12_readNumber_39 : decode cX12_readNumber 39 = .ok (.aload_n 0, 1) := by decide +kernel
theorem dX12_readNumber_40 : decode cX12_readNumber 40 = .ok (.aload_n 0, 1) := by decide +kernel
theorem dX12_readNumber_41 : decode cX12_readNumber 41 = .ok (.getfield 110, 3) := by decide +kernel
theorem dX12_readNumber_44 : decode cX12_readNumber 44 = .ok (.invokevirtual 113, 3) := by decide +kernel
theorem dX12_readNumber_47 : decode cX12_readNumber 47 = .ok (.bipush 46, 2) := by decide +kernel
theorem dX12_readNumber_49 : decode cX12_readNumber 49 = .ok (.if_icmp .ne 7, 3) := by decide +kernel
theorem dX12_readNumber_52 : decode cX12_readNumber 52 = .ok (.iconst 1, 1) := by decide +kernel
theorem dX12_readNumber_53 : decode cX12_readNumber 53 = .ok (.goto 4, 3) := by decide +kernel
theorem dX12_readNumber_56 : decode cX12_readNumber 56 = .ok (.iconst 0, 1) := by decide +kernel
theorem dX12_readNumber_57 : decode cX12_readNumber 57 = .ok (.istore_n 3, 1) := by decide +kernel
theorem dX12_readNumber_58 : decode cX12_readNumber 58 = .ok (.aload_n 0, 1) := by decide +kernel
theorem dX12_readNumber_59 : decode cX12_readNumber 59 = .ok (.iload_n 1, 1) := by decide +kernel
theorem dX12_readNumber_60 : decode cX12_readNumber 60 = .ok (.putfield 110, 3) := by decide +kernel
theorem dX12_readNumber_63 : decode cX12_readNumber 63 = .ok (.iload_n 3, 1) := by decide +kernel
theorem dX12_readNumber_64 : decode cX12_readNumber 64 = .ok (.ifCond .eq 8, 3) := by decide +kernel
theorem dX12_readNumber_67 : decode cX12_readNumber 67 = .ok (.aload_n 0, 1) := by decide +kernel
theorem dX12_readNumber_68 : decode cX12_readNumber 68 = .ok (.invokevirtual 147, 3) := by decide +kernel
theorem dX12_readNumber_71 : decode cX12_readNumber 71 = .ok (.return_, 1) := by decide +kernel
theorem dX12_readNumber_72 : decode cX12_readNumber 72 = .ok (.aload_n 0, 1) := by decide +kernel
theorem dX12_readNumber_73 : decode cX12_readNumber 73 = .ok (.aload_n 0, 1) := by decide +kernel
theorem dX12_readNumber_74 : decode cX12_readNumber 74 = .ok (.getfield 110, 3) := by decide +kernel
theorem dX12_readNumber_77 : decode cX12_readNumber 77 = .ok (.invokevirtual 113, 3) := by decide +kernel
theorem dX12_readNumber_80 : decode cX12_readNumber 80 = .ok (.invokestatic 123, 3) := by decide +kernel
theorem dX12_readNumber_83 : decode cX12_readNumber 83 = .ok (.ifCond .ne 17, 3) := by decide +kernel
theorem dX12_readNumber_86 : decode cX12_readNumber 86 = .ok (.aload_n 0, 1) := by decide +kernel
theorem dX12_readNumber_87 : decode cX12_readNumber 87 = .ok (.aload_n 0, 1) := by decide +kernel
theorem dX12_readNumber_88 : decode cX12_readNumber 88 = .ok (.getfield 110, 3) := by decide +kernel
theorem dX12_readNumber_91 : decode cX12_readNumber 91 = .ok (.invokevirtual 113, 3) := by decide +kernel
theorem dX12_readNumber_94 : decode cX12_readNumber 94 = .ok (.invokestatic 130, 3) := by decide +kernel
theorem dX12_readNumber_97 : decode cX12_readNumber 97 = .ok (.ifCond .eq 84, 3) := by decide +kernel
theorem dX12_readNumber_100 : decode cX12_readNumber 100 = .ok (.iload_n 2, 1) := by decide +kernel
theorem dX12_readNumber_101 : decode cX12_readNumber 101 = .ok (.ifCond .eq 31, 3) := by decide +kernel
theorem dX12_readNumber_104 : decode cX12_readNumber 104 = .ok (.aload_n 0, 1) := by decide +kernel
theorem dX12_readNumber_105 : decode cX12_readNumber 105 = .ok (.aload_n 0, 1) := by decide +kernel
theorem dX12_readNumber_106 : decode cX12_readNumber 106 = .ok (.getfield 110, 3) := by decide +kernel
theorem dX12_readNumber_109 : decode cX12_readNumber 109 = .ok (.invokevirtual 113, 3) := by decide +kernel
theorem dX12_readNumber_112 : decode cX12_readNumber 112 = .ok (.invokestatic 130, 3) := by decide +kernel
theorem dX12_readNumber_115 : decode cX12_readNumber 115 = .ok (.ifCond .eq 17, 3) := by decide +kernel
theorem dX12_readNumber_118 : decode cX12_readNumber 118 = .ok (.aload_n 0, 1) := by decide +kernel
theorem dX12_readNumber_119 : decode cX12_readNumber 119 = .ok (.getfield 110, 3) := by decide +kernel
theorem dX12_readNumber_122 : decode cX12_readNumber 122 = .ok (.iload_n 1, 1) := by decide +kernel
theorem dX12_readNumber_123 : decode cX12_readNumber 123 = .ok (.isub, 1) := by decide +kernel
theorem dX12_readNumber_124 : decode cX12_readNumber 124 = .ok (.iconst 5, 1) := by decide +kernel
theorem dX12_readNumber_125 : decode cX12_readNumber 125 = .ok (.if_icmp .ge 7, 3) := by decide +kernel
theorem dX12_readNumber_128 : decode cX12_readNumber 128 = .ok (.iconst 1, 1) := by decide +kernel
theorem dX12_readNumber_129 : decode cX12_readNumber 129 = .ok (.goto 4, 3) := by decide +kernel
theorem dX12_readNumber_132 : decode cX12_readNumber 132 = .ok (.iconst 0, 1) := by decide +kernel
theorem dX12_readNumber_133 : decode cX12_readNumber 133 = .ok (.istore_n 2, 1) := by decide +kernel
theorem dX12_readNumber_134 : decode cX12_readNumber 134 = .ok (.aload_n 0, 1) := by decide +kernel
theorem dX12_readNumber_135 : decode cX12_readNumber 135 = .ok (.iload_n 2, 1) := by decide +kernel
theorem dX12_readNumber_136 : decode cX12_readNumber 136 = .ok (.ifCond .eq 28, 3) := by decide +kernel
theorem dX12_readNumber_139 : decode cX12_readNumber 139 = .ok (.ldc2_w 150, 3) := by decide +kernel
theorem dX12_readNumber_142 : decode cX12_readNumber 142 = .ok (.aload_n 0, 1) := by decide +kernel
theorem dX12_readNumber_143 : decode cX12_readNumber 143 = .ok (.getfield 143, 3) := by decide +kernel
theorem dX12_readNumber_146 : decode cX12_readNumber 146 = .ok (.lmul, 1) := by decide +kernel
theorem dX12_readNumber_147 : decode cX12_readNumber 147 = .ok (.aload_n 0, 1) := by decide +kernel
theorem dX12_readNumber_148 : decode cX12_readNumber 148 = .ok (.aload_n 0, 1) := by decide +kernel
theorem dX12_readNumber_149 : decode cX12_readNumber 149 = .ok (.getfield 110, 3) := by decide +kernel
theorem dX12_readNumber_152 : decode cX12_readNumber 152 = .ok (.invokevirtual 113, 3) := by decide +kernel
theorem dX12_readNumber_155 : decode cX12_readNumber 155 = .ok (.i2l, 1) := by decide +kernel
theorem dX12_readNumber_156 : decode cX12_readNumber 156 = .ok (.ladd, 1) := by decide +kernel
theorem dX12_readNumber_157 : decode cX12_readNumber 157 = .ok (.ldc2_w 152, 3) := by decide +kernel
theorem dX12_readNumber_160 : decode cX12_readNumber 160 = .ok (.lsub, 1) := by decide +kernel
theorem dX12_readNumber_161 : decode cX12_readNumber 161 = .ok (.goto 4, 3) := by decide +kernel
theorem dX12_readNumber_164 : decode cX12_readNumber 164 = .ok (.lconst 0, 1) := by decide +kernel
theorem dX12_readNumber_165 : decode cX12_readNumber 165 = .ok (.putfield 143, 3) := by decide +kernel
theorem dX12_readNumber_168 : decode cX12_readNumber 168 = .ok (.aload_n 0, 1) := by decide +kernel
theorem dX12_readNumber_169 : decode cX12_readNumber 169 = .ok (.dup, 1) := by decide +kernel
theorem dX12_readNumber_170 : decode cX12_readNumber 170 = .ok (.getfield 110, 3) := by decide +kernel
theorem dX12_readNumber_173 : decode cX12_readNumber 173 = .ok (.iconst 1, 1) := by decide +kernel
theorem dX12_readNumber_174 : decode cX12_readNumber 174 = .ok (.iadd, 1) := by decide +kernel
theorem dX12_readNumber_175 : decode cX12_readNumber 175 = .ok (.putfield 110, 3) := by decide +kernel
theorem dX12_readNumber_178 : decode cX12_readNumber 178 = .ok (.goto (-106), 3) := by decide +kernel
theorem dX12_readNumber_181 : decode cX12_readNumber 181 = .ok (.aload_n 0, 1) := by decide +kernel
theorem dX12_readNumber_182 : decode cX12_readNumber 182 = .ok (.iload_n 2, 1) := by decide +kernel
theorem dX12_readNumber_183 : decode cX12_readNumber 183 = .ok (.ifCond .eq 7, 3) := by decide +kernel
theorem dX12_readNumber_186 : decode cX12_readNumber 186 = .ok (.iconst 2, 1) := by decide +kernel
theorem dX12_readNumber_187 : decode cX12_readNumber 187 = .ok (.goto 4, 3) := by decide +kernel
theorem dX12_readNumber_190 : decode cX12_readNumber 190 = .ok (.iconst 5, 1) := by decide +kernel
theorem dX12_readNumber_191 : decode cX12_readNumber 191 = .ok (.putfield 120, 3) := by decide +kernel
theorem dX12_readNumber_194 : decode cX12_readNumber 194 = .ok (.return_, 1) := by decide +kernel
theorem e_X12_readNumber_165 {X : gk_X} {F : Nat} {k72 : Nat → Int32 → Int32 → gk_S → Option (Unit × gk_S)} (hk72 : ∀ (l0 : Nat) (l1 : Int32) (l2 : Int32) (S : gk_S) (r : (Unit × gk_S)), k72 l0 l1 l2 S = some r → EvW X m_X12_readNumber 3 0 0 72 [some (.ref l0), some (.int l1), some (.int l2), none] [] S (qRU r)) {l0 : Nat} {l1 : Int32} {l2 : Int32} {s0 : Int64} {s1 : Nat} {S : gk_S} {r : (Unit × gk_S)} (h0 : f_X12_readNumber_165 F k72 l0 l1 l2 s0 s1 S = some r) : EvW X m_X12_readNumber 3 0 0 165 [some (.ref l0), some (.int l1), some (.int l2), none] [.long s0, .ref s1] S (qRU r) := by
  unfold f_X12_readNumber_165 at h0
  obtain ⟨g61, h62⟩ := qk_el h0; clear h0
  obtain ⟨S63, e64, h65⟩ := qv_el h62; clear h62
  refine yv_putJ (pc := 165) fn_917 (isb_el g61) e64 gw_1157 dX12_readNumber_165 ?_
  refine ev_aload_n (pc := 168) (i := 0) rfl rfl rfl dX12_readNumber_168 ?_
  refine ev_dup (pc := 169) (.inr rfl) dX12_readNumber_169 ?_
  obtain ⟨g66, h67⟩ := qk_el h65; clear h65
  obtain ⟨x68, e69, h70⟩ := qv_el h67; clear h67
  refine xv_getIv (pc := 170) fn_904 (isb_el g66) e69 gw_1144 dX12_readNumber_170 ?_
  refine ev_iconst (pc := 173) (v := 1) (by decide) dX12_readNumber_173 ?_
  refine ev_iadd (pc := 174)  dX12_readNumber_174 ?_
  obtain ⟨S71, e72, h73⟩ := qv_el h70; clear h70
  refine yv_putI (pc := 175) fn_904 ⟨rfl, rfl⟩ (isb_el g66) e72 gw_1144 dX12_readNumber_175 ?_
  refine ev_goto (pc := 178) (tgt := 72) (by decide) dX12_readNumber_178 ?_
  exact ev_weak (qL_s (qL_s (qL_s (qL_n qL_nil)))) (hk72 _ _ _ _ _ h73)
theorem e_X12_readNumber_133 {X : gk_X} {F : Nat} {k72 : Nat → Int32 → Int32 → gk_S → Option (Unit × gk_S)} (hk72 : ∀ (l0 : Nat) (l1 : Int32) (l2 : Int32) (S : gk_S) (r : (Unit × gk_S)), k72 l0 l1 l2 S = some r → EvW X m_X12_readNumber 3 0 0 72 [some (.ref l0), some (.int l1), some (.int l2), none] [] S (qRU r)) {l0 : Nat} {l1 : Int32} {s0 : Int32} {S : gk_S} {r : (Unit × gk_S)} (h0 : f_X12_readNumber_133 F k72 l0 l1 s0 S = some r) : EvW X m_X12_readNumber 3 0 0 133 [some (.ref l0), some (.int l1), none, none] [.int s0] S (qRU r) := by
  unfold f_X12_readNumber_133 at h0
  refine ev_istore_n (pc := 133) (L' := [some (.ref l0), some (.int l1), some (.int s0), none]) (i := 2) rfl (by decide) rfl rfl dX12_readNumber_133 ?_
  refine ev_aload_n (pc := 134) (i := 0) rfl rfl rfl dX12_readNumber_134 ?_
  refine ev_iload_n (pc := 135) (i := 2) rfl rfl dX12_readNumber_135 ?_
  refine ev_if_eq (pc := 136) (tgt := 164) (by decide) dX12_readNumber_136 (fun c59 => ?_) (fun c59 => ?_)
  · replace h0 := qi_t h0 c59
    refine ev_lconst (pc := 164) (v := 0) (by decide) dX12_readNumber_164 ?_
    exact ev_weak (qL_s (qL_s (qL_s (qL_n qL_nil)))) (e_X12_readNumber_165 hk72 h0)
  · replace h0 := qi_f h0 c59
    refine ev_ldc2 (pc := 139) (v := 10) gw_1306 dX12_readNumber_139 ?_
    refine ev_aload_n (pc := 142) (i := 0) rfl rfl rfl dX12_readNumber_142 ?_
    obtain ⟨g74, h75⟩ := qk_el h0; clear h0
    obtain ⟨x76, e77, h78⟩ := qv_el h75; clear h75
    refine xv_getJv (pc := 143) fn_917 (isb_el g74) e77 gw_1157 dX12_readNumber_143 ?_
    refine ev_lmul (pc := 146)  dX12_readNumber_146 ?_
    refine ev_aload_n (pc := 147) (i := 0) rfl rfl rfl dX12_readNumber_147 ?_
    refine ev_aload_n (pc := 148) (i := 0) rfl rfl rfl dX12_readNumber_148 ?_
    obtain ⟨x79, e80, h81⟩ := qv_el h78; clear h78
    refine xv_getIv (pc := 149) fn_904 (isb_el g74) e80 gw_1144 dX12_readNumber_149 ?_
    obtain ⟨x82, S83, e84, h85⟩ := qc_el h81; clear h81
    refine xv_callV (pc := 152) (st := [.long (10 * x76), .ref l0]) (as := [.int x79]) (v := (some (.int x82))) (S' := S83) ok_X12_byteAt (e_X12_byteAt e84) (isb_el g74) (by decide) rfl (Nat.le_of_ble_eq_true rfl) rfl gw_1280 dX12_readNumber_152 ?_
    refine ev_i2l (pc := 155)  dX12_readNumber_155 ?_
    refine ev_ladd (pc := 156)  dX12_readNumber_156 ?_
    refine ev_ldc2 (pc := 157) (v := 48) gw_1307 dX12_readNumber_157 ?_
    refine ev_lsub (pc := 160)  dX12_readNumber_160 ?_
    refine ev_goto (pc := 161) (tgt := 165) (by decide) dX12_readNumber_161 ?_
    exact ev_weak (qL_s (qL_s (qL_s (qL_n qL_nil)))) (e_X12_readNumber_165 hk72 h85)
theorem e_X12_readNumber_100 {X : gk_X} {F : Nat} {k72 : Nat → Int32 → Int32 → gk_S → Option (Unit × gk_S)} (hk72 : ∀ (l0 : Nat) (l1 : Int32) (l2 : Int32) (S : gk_S) (r : (Unit × gk_S)), k72 l0 l1 l2 S = some r → EvW X m_X12_readNumber 3 0 0 72 [some (.ref l0), some (.int l1), some (.int l2), none] [] S (qRU r)) {l0 : Nat} {l1 : Int32} {l2 : Int32} {S : gk_S} {r : (Unit × gk_S)} (h0 : f_X12_readNumber_100 F k72 l0 l1 l2 S = some r) : EvW X m_X12_readNumber 3 0 0 100 [some (.ref l0), some (.int l1), some (.int l2), none] [] S (qRU r) := by
  unfold f_X12_readNumber_100 at h0
  refine ev_iload_n (pc := 100) (i := 2) rfl rfl dX12_readNumber_100 ?_
  refine ev_if_eq (pc := 101) (tgt := 132) (by decide) dX12_readNumber_101 (fun c57 => ?_) (fun c57 => ?_)
  · replace h0 := qi_t h0 c57
    refine ev_iconst (pc := 132) (v := 0) (by decide) dX12_readNumber_132 ?_
    exact ev_weak (qL_s (qL_s (qL_n (qL_n qL_nil)))) (e_X12_readNumber_133 hk72 h0)
  · replace h0 := qi_f h0 c57
    refine ev_aload_n (pc := 104) (i := 0) rfl rfl rfl dX12_readNumber_104 ?_
    refine ev_aload_n (pc := 105) (i := 0) rfl rfl rfl dX12_readNumber_105 ?_
    obtain ⟨g86, h87⟩ := qk_el h0; clear h0
    obtain ⟨x88, e89, h90⟩ := qv_el h87; clear h87
    refine xv_getIv (pc := 106) fn_904 (isb_el g86) e89 gw_1144 dX12_readNumber_106 ?_
    obtain ⟨x91, S92, e93, h94⟩ := qc_el h90; clear h90
    refine xv_callV (pc := 109) (st := []) (as := [.int x88]) (v := (some (.int x91))) (S' := S92) ok_X12_byteAt (e_X12_byteAt e93) (isb_el g86) (by decide) rfl (Nat.le_of_ble_eq_true rfl) rfl gw_1280 dX12_readNumber_109 ?_
    obtain ⟨x95, S96, e97, h98⟩ := qc_el h94; clear h94
    refine xv_callS (pc := 112) (st := []) (as := [.int x91]) (v := (some (.int x95))) (S' := S96) ok_X12_isDigit (e_X12_isDigit e97) (by decide) rfl (Nat.le_of_ble_eq_true rfl) rfl gw_1291 dX12_readNumber_112 ?_
    refine ev_if_eq (pc := 115) (tgt := 132) (by decide) dX12_readNumber_115 (fun c99 => ?_) (fun c99 => ?_)
    · replace h98 := qi_t h98 c99
      refine ev_iconst (pc := 132) (v := 0) (by decide) dX12_readNumber_132 ?_
      exact ev_weak (qL_s (qL_s (qL_n (qL_n qL_nil)))) (e_X12_readNumber_133 hk72 h98)
    · replace h98 := qi_f h98 c99
      refine ev_aload_n (pc := 118) (i := 0) rfl rfl rfl dX12_readNumber_118 ?_
      obtain ⟨g101, h102⟩ := qk_el h98; clear h98
      obtain ⟨x103, e104, h105⟩ := qv_el h102; clear h102
      refine xv_getIv (pc := 119) fn_904 (isb_el g101) e104 gw_1144 dX12_readNumber_119 ?_
      refine ev_iload_n (pc := 122) (i := 1) rfl rfl dX12_readNumber_122 ?_
      refine ev_isub (pc := 123)  dX12_readNumber_123 ?_
      refine ev_iconst (pc := 124) (v := 5) (by decide) dX12_readNumber_124 ?_
      refine ev_ic_ge (pc := 125) (tgt := 132) (by decide) dX12_readNumber_125 (fun c106 => ?_) (fun c106 => ?_)
      · replace h105 := qi_t h105 c106
        refine ev_iconst (pc := 132) (v := 0) (by decide) dX12_readNumber_132 ?_
        exact ev_weak (qL_s (qL_s (qL_n (qL_n qL_nil)))) (e_X12_readNumber_133 hk72 h105)
      · replace h105 := qi_f h105 c106
        refine ev_iconst (pc := 128) (v := 1) (by decide) dX12_readNumber_128 ?_
        refine ev_goto (pc := 129) (tgt := 133) (by decide) dX12_readNumber_129 ?_
        exact ev_weak (qL_s (qL_s (qL_n (qL_n qL_nil)))) (e_X12_readNumber_133 hk72 h105)
theorem e_X12_readNumber_72 {X : gk_X} {F : Nat} : ∀ (n : Nat) (l0 : Nat) (l1 : Int32) (l2 : Int32) (S : gk_S) (r : (Unit × gk_S)), f_X12_readNumber_72 F n l0 l1 l2 S = some r → EvW X m_X12_readNumber 3 0 0 72 [some (.ref l0), some (.int l1), some (.int l2), none] [] S (qRU r) := by
  intro n
  induction n with
  | zero => intro l0 l1 l2 S r h0; rw [f_X12_readNumber_72] at h0; cases h0
  | succ n ih =>
    intro l0 l1 l2 S r h0; rw [f_X12_readNumber_72] at h0
    refine ev_aload_n (pc := 72) (i := 0) rfl rfl rfl dX12_readNumber_72 ?_
    refine ev_aload_n (pc := 73) (i := 0) rfl rfl rfl dX12_readNumber_73 ?_
    obtain ⟨g42, h43⟩ := qk_el h0; clear h0
    obtain ⟨x44, e45, h46⟩ := qv_el h43; clear h43
    refine xv_getIv (pc := 74) fn_904 (isb_el g42) e45 gw_1144 dX12_readNumber_74 ?_
    obtain ⟨x47, S48, e49, h50⟩ := qc_el h46; clear h46
    refine xv_callV (pc := 77) (st := []) (as := [.int x44]) (v := (some (.int x47))) (S' := S48) ok_X12_byteAt (e_X12_byteAt e49) (isb_el g42) (by decide) rfl (Nat.le_of_ble_eq_true rfl) rfl gw_1280 dX12_readNumber_77 ?_
    obtain ⟨x51, S52, e53, h54⟩ := qc_el h50; clear h50
    refine xv_callS (pc := 80) (st := []) (as := [.int x47]) (v := (some (.int x51))) (S' := S52) ok_X12_isSmall (e_X12_isSmall e53) (by decide) rfl (Nat.le_of_ble_eq_true rfl) rfl gw_1284 dX12_readNumber_80 ?_
    refine ev_if_ne (pc := 83) (tgt := 100) (by decide) dX12_readNumber_83 (fun c55 => ?_) (fun c55 => ?_)
    · replace h54 := qi_f h54 c55
      exact ev_weak (qL_s (qL_s (qL_s (qL_n qL_nil)))) (e_X12_readNumber_100 ih h54)
    · replace h54 := qi_t h54 c55
      refine ev_aload_n (pc := 86) (i := 0) rfl rfl rfl dX12_readNumber_86 ?_
      refine ev_aload_n (pc := 87) (i := 0) rfl rfl rfl dX12_readNumber_87 ?_
      obtain ⟨g108, h109⟩ := qk_el h54; clear h54
      obtain ⟨x110, e111, h112⟩ := qv_el h109; clear h109
      refine xv_getIv (pc := 88) fn_904 (isb_el g108) e111 gw_1144 dX12_readNumber_88 ?_
      obtain ⟨x113, S114, e115, h116⟩ := qc_el h112; clear h112
      refine xv_callV (pc := 91) (st := []) (as := [.int x110]) (v := (some (.int x113))) (S' := S114) ok_X12_byteAt (e_X12_byteAt e115) (isb_el g108) (by decide) rfl (Nat.le_of_ble_eq_true rfl) rfl gw_1280 dX12_readNumber_91 ?_
      obtain ⟨x117, S118, e119, h120⟩ := qc_el h116; clear h116
      refine xv_callS (pc := 94) (st := []) (as := [.int x113]) (v := (some (.int x117))) (S' := S118) ok_X12_isDigit (e_X12_isDigit e119) (by decide) rfl (Nat.le_of_ble_eq_true rfl) rfl gw_1291 dX12_readNumber_94 ?_
      refine ev_if_eq (pc := 97) (tgt := 181) (by decide) dX12_readNumber_97 (fun c121 => ?_) (fun c121 => ?_)
      · replace h120 := qi_t h120 c121
        refine ev_aload_n (pc := 181) (i := 0) rfl rfl rfl dX12_readNumber_181 ?_
        refine ev_iload_n (pc := 182) (i := 2) rfl rfl dX12_readNumber_182 ?_
        refine ev_if_eq (pc := 183) (tgt := 190) (by decide) dX12_readNumber_183 (fun c123 => ?_) (fun c123 => ?_)
        · replace h120 := qi_t h120 c123
          refine ev_iconst (pc := 190) (v := 5) (by decide) dX12_readNumber_190 ?_
          obtain ⟨g125, h126⟩ := qk_el h120; clear h120
          obtain ⟨S127, e128, h129⟩ := qv_el h126; clear h126
          refine yv_putI (pc := 191) fn_914 ⟨rfl, rfl⟩ (isb_el g125) e128 gw_1154 dX12_readNumber_191 ?_
          exact ev_return (pc := 194) rfl (qRU_eq h129) dX12_readNumber_194
        · replace h120 := qi_f h120 c123
          refine ev_iconst (pc := 186) (v := 2) (by decide) dX12_readNumber_186 ?_
          refine ev_goto (pc := 187) (tgt := 191) (by decide) dX12_readNumber_187 ?_
          obtain ⟨g130, h131⟩ := qk_el h120; clear h120
          obtain ⟨S132, e133, h134⟩ := qv_el h131; clear h131
          refine yv_putI (pc := 191) fn_914 ⟨rfl, rfl⟩ (isb_el g130) e133 gw_1154 dX12_readNumber_191 ?_
          exact ev_return (pc := 194) rfl (qRU_eq h134) dX12_readNumber_194
      · replace h120 := qi_f h120 c121
        exact ev_weak (qL_s (qL_s (qL_s (qL_n qL_nil)))) (e_X12_readNumber_100 ih h120)
theorem e_X12_readNumber_57 {X : gk_X} {F : Nat} {l0 : Nat} {l1 : Int32} {l2 : Int32} {s0 : Int32} {S : gk_S} {r : (Unit × gk_S)} (h0 : f_X12_readNumber_57 F l0 l1 l2 s0 S = some r) : EvW X m_X12_readNumber 3 0 0 57 [some (.ref l0), some (.int l1), some (.int l2), none] [.int s0] S (qRU r) := by
  unfold f_X12_readNumber_57 at h0
  refine ev_istore_n (pc := 57) (L' := [some (.ref l0), some (.int l1), some (.int l2), some (.int s0)]) (i := 3) rfl (by decide) rfl rfl dX12_readNumber_57 ?_
  refine ev_aload_n (pc := 58) (i := 0) rfl rfl rfl dX12_readNumber_58 ?_
  refine ev_iload_n (pc := 59) (i := 1) rfl rfl dX12_readNumber_59 ?_
  obtain ⟨g35, h36⟩ := qk_el h0; clear h0
  obtain ⟨S37, e38, h39⟩ := qv_el h36; clear h36
  refine yv_putI (pc := 60) fn_904 ⟨rfl, rfl⟩ (isb_el g35) e38 gw_1144 dX12_readNumber_60 ?_
  refine ev_iload_n (pc := 63) (i := 3) rfl rfl dX12_readNumber_63 ?_
  refine ev_if_eq (pc := 64) (tgt := 72) (by decide) dX12_readNumber_64 (fun c40 => ?_) (fun c40 => ?_)
  · replace h39 := qi_t h39 c40
    exact ev_weak (qL_s (qL_s (qL_s (qL_n qL_nil)))) (e_X12_readNumber_72 F _ _ _ _ _ h39)
  · replace h39 := qi_f h39 c40
    refine ev_aload_n (pc := 67) (i := 0) rfl rfl rfl dX12_readNumber_67 ?_
    obtain ⟨x135, S136, e137, h138⟩ := qc_el h39; clear h39
    refine xv_callV (pc := 68) (st := []) (as := []) (v := none) (S' := S136) ok_X12_readAddress (e_X12_readAddress e137) (is_sI (isb_el g35) e38) (by decide) rfl (Nat.le_of_ble_eq_true rfl) rfl gw_1302 dX12_readNumber_68 ?_
    exact ev_return (pc := 71) rfl (qRU_eq h138) dX12_readNumber_71
theorem e_X12_readNumber_12 {X : gk_X} {F : Nat} : ∀ (n : Nat) (l0 : Nat) (l1 : Int32) (l2 : Int32) (S : gk_S) (r : (Unit × gk_S)), f_X12_readNumber_12 F n l0 l1 l2 S = some r → EvW X m_X12_readNumber 3 0 0 12 [some (.ref l0), some (.int l1), some (.int l2), none] [] S (qRU r) := by
  intro n
  induction n with
  | zero => intro l0 l1 l2 S r h0; rw [f_X12_readNumber_12] at h0; cases h0
  | succ n ih =>
    intro l0 l1 l2 S r h0; rw [f_X12_readNumber_12] at h0
    refine ev_aload_n (pc := 12) (i := 0) rfl rfl rfl dX12_readNumber_12 ?_
    refine ev_aload_n (pc := 13) (i := 0) rfl rfl rfl dX12_readNumber_13 ?_
    obtain ⟨g9, h10⟩ := qk_el h0; clear h0
    obtain ⟨x11, e12, h13⟩ := qv_el h10; clear h10
    refine xv_getIv (pc := 14) fn_904 (isb_el g9) e12 gw_1144 dX12_readNumber_14 ?_
    obtain ⟨x14, S15, e16, h17⟩ := qc_el h13; clear h13
    refine xv_callV (pc := 17) (st := []) (as := [.int x11]) (v := (some (.int x14))) (S' := S15) ok_X12_byteAt (e_X12_byteAt e16) (isb_el g9) (by decide) rfl (Nat.le_of_ble_eq_true rfl) rfl gw_1280 dX12_readNumber_17 ?_
    obtain ⟨x18, S19, e20, h21⟩ := qc_el h17; clear h17
    refine xv_callS (pc := 20) (st := []) (as := [.int x14]) (v := (some (.int x18))) (S' := S19) ok_X12_isDigit (e_X12_isDigit e20) (by decide) rfl (Nat.le_of_ble_eq_true rfl) rfl gw_1291 dX12_readNumber_20 ?_
    refine ev_if_eq (pc := 23) (tgt := 39) (by decide) dX12_readNumber_23 (fun c22 => ?_) (fun c22 => ?_)
    · replace h21 := qi_t h21 c22
      refine ev_aload_n (pc := 39) (i := 0) rfl rfl rfl dX12_readNumber_39 ?_
      refine ev_aload_n (pc := 40) (i := 0) rfl rfl rfl dX12_readNumber_40 ?_
      obtain ⟨g24, h25⟩ := qk_el h21; clear h21
      obtain ⟨x26, e27, h28⟩ := qv_el h25; clear h25
      refine xv_getIv (pc := 41) fn_904 (isb_el g24) e27 gw_1144 dX12_readNumber_41 ?_
      obtain ⟨x29, S30, e31, h32⟩ := qc_el h28; clear h28
      refine xv_callV (pc := 44) (st := []) (as := [.int x26]) (v := (some (.int x29))) (S' := S30) ok_X12_byteAt (e_X12_byteAt e31) (isb_el g24) (by decide) rfl (Nat.le_of_ble_eq_true rfl) rfl gw_1280 dX12_readNumber_44 ?_
      refine ev_bipush (pc := 47) (v := 46) (by decide) dX12_readNumber_47 ?_
      refine ev_ic_ne (pc := 49) (tgt := 56) (by decide) dX12_readNumber_49 (fun c33 => ?_) (fun c33 => ?_)
      · replace h32 := qi_f h32 c33
        refine ev_iconst (pc := 56) (v := 0) (by decide) dX12_readNumber_56 ?_
        exact ev_weak (qL_s (qL_s (qL_s (qL_n qL_nil)))) (e_X12_readNumber_57 h32)
      · replace h32 := qi_t h32 c33
        refine ev_iconst (pc := 52) (v := 1) (by decide) dX12_readNumber_52 ?_
        refine ev_goto (pc := 53) (tgt := 57) (by decide) dX12_readNumber_53 ?_
        exact ev_weak (qL_s (qL_s (qL_s (qL_n qL_nil)))) (e_X12_readNumber_57 h32)
    · replace h21 := qi_f h21 c22
      refine ev_aload_n (pc := 26) (i := 0) rfl rfl rfl dX12_readNumber_26 ?_
      refine ev_dup (pc := 27) (.inr rfl) dX12_readNumber_27 ?_
      obtain ⟨g139, h140⟩ := qk_el h21; clear h21
      obtain ⟨x141, e142, h143⟩ := qv_el h140; clear h140
      refine xv_getIv (pc := 28) fn_904 (isb_el g139) e142 gw_1144 dX12_readNumber_28 ?_
      refine ev_iconst (pc := 31) (v := 1) (by decide) dX12_readNumber_31 ?_
      refine ev_iadd (pc := 32)  dX12_readNumber_32 ?_
      obtain ⟨S144, e145, h146⟩ := qv_el h143; clear h143
      refine yv_putI (pc := 33) fn_904 ⟨rfl, rfl⟩ (isb_el g139) e145 gw_1144 dX12_readNumber_33 ?_
      refine ev_goto (pc := 36) (tgt := 12) (by decide) dX12_readNumber_36 ?_
      exact (ev_weak (qL_s (qL_s (qL_s (qL_n qL_nil)))) (ih _ _ _ _ _ h146))
theorem e_X12_readNumber {X : gk_X} {F : Nat} {S : gk_S} {a : Nat} {r : (Unit × gk_S)} (h0 : f_X12_readNumber F S a = some r) : EvM X m_X12_readNumber 3 0 0 [.ref a] S (qRU r) := by
  unfold f_X12_readNumber at h0
  refine ev_method (by decide +kernel) rfl rfl (Nat.le_of_ble_eq_true rfl) ?_
  show EvW X m_X12_readNumber 3 0 0 0 [some (.ref a), none, none, none] [] S _
  refine ev_aload_n (pc := 0) (i := 0) rfl rfl rfl dX12_readNumber_0 ?_
  obtain ⟨g1, h2⟩ := qk_el h0; clear h0
  obtain ⟨x3, e4, h5⟩ := qv_el h2; clear h2
  refine xv_getIv (pc := 1) fn_904 (isb_el g1) e4 gw_1144 dX12_readNumber_1 ?_
  refine ev_istore_n (pc := 4) (L' := [some (.ref a), some (.int x3), none, none]) (i := 1) rfl (by decide) rfl rfl dX12_readNumber_4 ?_
  refine ev_iconst (pc := 5) (v := 1) (by decide) dX12_readNumber_5 ?_
  refine ev_istore_n (pc := 6) (L' := [some (.ref a), some (.int x3), some (.int 1), none]) (i := 2) rfl (by decide) rfl rfl dX12_readNumber_6 ?_
  refine ev_aload_n (pc := 7) (i := 0) rfl rfl rfl dX12_readNumber_7 ?_
  refine ev_lconst (pc := 8) (v := 0) (by decide) dX12_readNumber_8 ?_
  obtain ⟨S6, e7, h8⟩ := qv_el h5; clear h5
  refine yv_putJ (pc := 9) fn_917 (isb_el g1) e7 gw_1157 dX12_readNumber_9 ?_
  exact ev_weak (qL_s (qL_s (qL_s (qL_n qL_nil)))) (e_X12_readNumber_12 F _ _ _ _ _ h8)
theorem dX12_next_0 : decode cX12_next 0 = .ok (.aload_n 0, 1) := by decide +kernel
theorem dX12_next_1 : decode cX12_next 1 = .ok (.aload_n 0, 1) := by decide +kernel
theorem dX12_next_2 : decode cX12_next 2 = .ok (.getfield 110, 3) := by decide +kernel
theorem dX12_next_5 : decode cX12_next 5 = .ok (.invokevirtual 113, 3) := by decide +kernel
theorem dX12_next_8 : decode cX12_next 8 = .ok (.bipush 32, 2) := by decide +kernel
theorem dX12_next_10 : decode cX12_next 10 = .ok (.if_icmp .eq 16, 3) := by decide +kernel
theorem dX12_next_13 : decode cX12_next 13 = .ok (.aload_n 0, 1) := by decide +kernel
theorem dX12_next_14 : decode cX12_next 14 = .ok (.aload_n 0, 1) := by decide +kernel
theorem dX12_next_15 : decode cX12_next 15 = .ok (.getfield 110, 3) := by decide +kernel
theorem dX12_next_18 : decode cX12_next 18 = .ok (.invokevirtual 113, 3) := by decide +kernel
theorem dX12_next_21 : decode cX12_next 21 = .ok (.bipush 10, 2) := by decide +kernel
theorem dX12_next_23 : decode cX12_next 23 = .ok (.if_icmp .ne 16, 3) := by decide +kernel
theorem dX12_next_26 : decode cX12_next 26 = .ok (.aload_n 0, 1) := by decide +kernel
theorem dX12_next_27 : decode cX12_next 27 = .ok (.dup, 1) := by decide +kernel
theorem dX12_next_28 : decode cX12_next 28 = .ok (.getfield 110, 3) := by decide +kernel
theorem dX12_next_31 : decode cX12_next 31 = .ok (.iconst 1, 1) := by decide +kernel
theorem dX12_next_32 : decode cX12_next 32 = .ok (.iadd, 1) := by decide +kernel
theorem dX12_next_33 : decode cX12_next 33 = .ok (.putfield 110, 3) := by decide +kernel
theorem dX12_next_36 : decode cX12_next 36 = .ok (.goto (-36), 3) := by decide +kernel
theorem dX12_next_39 : decode cX12_next 39 = .ok (.aload_n 0, 1) := by decide +kernel
theorem dX12_next_40 : decode cX12_next 40 = .ok (.aload_n 0, 1) := by decide +kernel
theorem dX12_next_41 : decode cX12_next 41 = .ok (.getfield 110, 3) := by decide +kernel
theorem dX12_next_44 : decode cX12_next 44 = .ok (.putfield 117, 3) := by decide +kernel
theorem dX12_next_47 : decode cX12_next 47 = .ok (.aload_n 0, 1) := by decide +kernel
theorem dX12_next_48 : decode cX12_next 48 = .ok (.aload_n 0, 1) := by decide +kernel
theorem dX12_next_49 : decode cX12_next 49 = .ok (.getfield 110, 3) := by decide +kernel
theorem dX12_next_52 : decode cX12_next 52 = .ok (.invokevirtual 113, 3) := by decide +kernel
theorem dX12_next_55 : decode cX12_next 55 = .ok (.istore_n 1, 1) := by decide +kernel
theorem dX12_next_56 : decode cX12_next 56 = .ok (.iload_n 1, 1) := by decide +kernel
theorem dX12_next_57 : decode cX12_next 57 = .ok (.ifCond .ge 11, 3) := by decide +kernel
theorem dX12_next_60 : decode cX12_next 60 = .ok (.aload_n 0, 1) := by decide +kernel
theorem dX12_next_61 : decode cX12_next 61 = .ok (.iconst 0, 1) := by decide +kernel
theorem dX12_next_62 : decode cX12_next 62 = .ok (.putfield 120, 3) := by decide +kernel
theorem dX12_next_65 : decode cX12_next 65 = .ok (.goto 79, 3) := by decide +kernel
theorem dX12_next_68 : decode cX12_next 68 = .ok (.iload_n 1, 1) := by decide +kernel
theorem dX12_next_69 : decode cX12_next 69 = .ok (.invokestatic 123, 3) := by decide +kernel
theorem dX12_next_72 : decode cX12_next 72 = .ok (.ifCond .eq 10, 3) := by decide +kernel
theorem dX12_next_75 : decode cX12_next 75 = .ok (.aload_n 0, 1) := by decide +kernel
theorem dX12_next_76 : decode cX12_next 76 = .ok (.invokevirtual 127, 3) := by decide +kernel
theorem dX12_next_79 : decode cX12_next 79 = .ok (.goto 65, 3) := by decide +kernel
theorem dX12_next_82 : decode cX12_next 82 = .ok (.iload_n 1, 1) := by decide +kernel
theorem dX12_next_83 : decode cX12_next 83 = .ok (.invokestatic 130, 3) := by decide +kernel
theorem dX12_next_86 : decode cX12_next 86 = .ok (.ifCond .eq 10, 3) := by decide +kernel
theorem dX12_next_89 : decode cX12_next 89 = .ok (.aload_n 0, 1) := by decide +kernel
theorem dX12_next_90 : decode cX12_next 90 = .ok (.invokevirtual 133, 3) := by decide +kernel
theorem dX12_next_93 : decode cX12_next 93 = .ok (.goto 51, 3) := by decide +kernel
theorem dX12_next_96 : decode cX12_next 96 = .ok (.aload_n 0, 1) := by decide +kernel
theorem dX12_next_97 : decode cX12_next 97 = .ok (.iload_n 1, 1) := by decide +kernel
theorem dX12_next_98 : decode cX12_next 98 = .ok (.bipush 59, 2) := by decide +kernel
theorem dX12_next_100 : decode cX12_next 100 = .ok (.if_icmp .eq 21, 3) := by decide +kernel
theorem dX12_next_103 : decode cX12_next 103 = .ok (.iload_n 1, 1) := by decide +kernel
theorem dX12_next_104 : decode cX12_next 104 = .ok (.bipush 44, 2) := by decide +kernel
theorem dX12_next_106 : decode cX12_next 106 = .ok (.if_icmp .eq 15, 3) := by decide +kernel
theorem dX12_next_109 : decode cX12_next 109 = .ok (.iload_n 1, 1) := by decide +kernel
theorem dX12_next_110 : decode cX12_next 110 = .ok (.bipush 45, 2) := by decide +kernel
theorem dX12_next_112 : decode cX12_next 112 = .ok (.if_icmp .eq 9, 3) := by decide +kernel
theorem dX12_next_115 : decode cX12_next 115 = .ok (.iload_n 1, 1) := by decide +kernel
theorem dX12_next_116 : decode cX12_next 116 = .ok (.bipush 47, 2) := by decide +kernel
theorem dX12_next_118 : decode cX12_next 118 = .ok (.if_icmp .ne 7, 3) := by decide +kernel
theorem dX12_next_121 : decode cX12_next 121 = .ok (.iconst 4, 1) := by decide +kernel
theorem dX12_next_122 : decode cX12_next 122 = .ok (.goto 4, 3) := by decide +kernel
theorem dX12_next_125 : decode cX12_next 125 = .ok (.iconst 5, 1) := by decide +kernel
theorem dX12_next_126 : decode cX12_next 126 = .ok (.putfield 120, 3) := by decide +kernel
theorem dX12_next_129 : decode cX12_next 129 = .ok (.aload_n 0, 1) := by decide +kernel
theorem dX12_next_130 : decode cX12_next 130 = .ok (.iload_n 1, 1) := by decide +kernel
theorem dX12_next_131 : decode cX12_next 131 = .ok (.putfield 136, 3) := by decide +kernel
theorem dX12_next_134 : decode cX12_next 134 = .ok (.aload_n 0, 1) := by decide +kernel
theorem dX12_next_135 : decode cX12_next 135 = .ok (.dup, 1) := by decide +kernel
theorem dX12_next_136 : decode cX12_next 136 = .ok (.getfield 110, 3) := by decide +kernel
theorem dX12_next_139 : decode cX12_next 139 = .ok (.iconst 1, 1) := by decide +kernel
theorem dX12_next_140 : decode cX12_next 140 = .ok (.iadd, 1) := by decide +kernel
theorem dX12_next_141 : decode cX12_next 141 = .ok (.putfield 110, 3) := by decide +kernel
theorem dX12_next_144 : decode cX12_next 144 = .ok (.return_, 1) := by decide +kernel
theorem e_X12_next_26 {X : gk_X} {F : Nat} {k0 : Nat → gk_S → Option (Unit × gk_S)} (hk0 : ∀ (l0 : Nat) (S : gk_S) (r : (Unit × gk_S)), k0 l0 S = some r → EvW X m_X12_next 7 0 0 0 [some (.ref l0), none] [] S (qRU r)) {l0 : Nat} {S : gk_S} {r : (Unit × gk_S)} (h0 : f_X12_next_26 F k0 l0 S = some r) : EvW X m_X12_next 7 0 0 26 [some (.ref l0), none] [] S (qRU r) := by
  unfold f_X12_next_26 at h0
  refine ev_aload_n (pc := 26) (i := 0) rfl rfl rfl dX12_next_26 ?_
  refine ev_dup (pc := 27) (.inr rfl) dX12_next_27 ?_
  obtain ⟨g12, h13⟩ := qk_el h0; clear h0
  obtain ⟨x14, e15, h16⟩ := qv_el h13; clear h13
  refine xv_getIv (pc := 28) fn_904 (isb_el g12) e15 gw_1144 dX12_next_28 ?_
  refine ev_iconst (pc := 31) (v := 1) (by decide) dX12_next_31 ?_
  refine ev_iadd (pc := 32)  dX12_next_32 ?_
  obtain ⟨S17, e18, h19⟩ := qv_el h16; clear h16
  refine yv_putI (pc := 33) fn_904 ⟨rfl, rfl⟩ (isb_el g12) e18 gw_1144 dX12_next_33 ?_
  refine ev_goto (pc := 36) (tgt := 0) (by decide) dX12_next_36 ?_
  exact ev_weak (qL_s (qL_n qL_nil)) (hk0 _ _ _ h19)
theorem e_X12_next_126 {X : gk_X} {F : Nat} {l0 : Nat} {l1 : Int32} {s0 : Int32} {s1 : Nat} {S : gk_S} {r : (Unit × gk_S)} (h0 : f_X12_next_126 F l0 l1 s0 s1 S = some r) : EvW X m_X12_next 7 0 0 126 [some (.ref l0), some (.int l1)] [.int s0, .ref s1] S (qRU r) := by
  unfold f_X12_next_126 at h0
  obtain ⟨g62, h63⟩ := qk_el h0; clear h0
  obtain ⟨S64, e65, h66⟩ := qv_el h63; clear h63
  refine yv_putI (pc := 126) fn_914 ⟨rfl, rfl⟩ (isb_el g62) e65 gw_1154 dX12_next_126 ?_
  refine ev_aload_n (pc := 129) (i := 0) rfl rfl rfl dX12_next_129 ?_
  refine ev_iload_n (pc := 130) (i := 1) rfl rfl dX12_next_130 ?_
  obtain ⟨g67, h68⟩ := qk_el h66; clear h66
  obtain ⟨S69, e70, h71⟩ := qv_el h68; clear h68
  refine yv_putI (pc := 131) fn_916 ⟨rfl, rfl⟩ (isb_el g67) e70 gw_1156 dX12_next_131 ?_
  refine ev_aload_n (pc := 134) (i := 0) rfl rfl rfl dX12_next_134 ?_
  refine ev_dup (pc := 135) (.inr rfl) dX12_next_135 ?_
  obtain ⟨x72, e73, h74⟩ := qv_el h71; clear h71
  refine xv_getIv (pc := 136) fn_904 (is_sI (isb_el g67) e70) e73 gw_1144 dX12_next_136 ?_
  refine ev_iconst (pc := 139) (v := 1) (by decide) dX12_next_139 ?_
  refine ev_iadd (pc := 140)  dX12_next_140 ?_
  obtain ⟨S75, e76, h77⟩ := qv_el h74; clear h74
  refine yv_putI (pc := 141) fn_904 ⟨rfl, rfl⟩ (is_sI (isb_el g67) e70) e76 gw_1144 dX12_next_141 ?_
  exact ev_return (pc := 144) rfl (qRU_eq h77) dX12_next_144
theorem e_X12_next_0 {X : gk_X} {F : Nat} : ∀ (n : Nat) (l0 : Nat) (S : gk_S) (r : (Unit × gk_S)), f_X12_next_0 F n l0 S = some r → EvW X m_X12_next 7 0 0 0 [some (.ref l0), none] [] S (qRU r) := by
  intro n
  induction n with
  | zero => intro l0 S r h0; rw [f_X12_next_0] at h0; cases h0
  | succ n ih =>
    intro l0 S r h0; rw [f_X12_next_0] at h0
    refine ev_aload_n (pc := 0) (i := 0) rfl rfl rfl dX12_next_0 ?_
    refine ev_aload_n (pc := 1) (i := 0) rfl rfl rfl dX12_next_1 ?_
    obtain ⟨g1, h2⟩ := qk_el h0; clear h0
    obtain ⟨x3, e4, h5⟩ := qv_el h2; clear h2
    refine xv_getIv (pc := 2) fn_904 (isb_el g1) e4 gw_1144 dX12_next_2 ?_
    obtain ⟨x6, S7, e8, h9⟩ := qc_el h5; clear h5
    refine xv_callV (pc := 5) (st := []) (as := [.int x3]) (v := (some (.int x6))) (S' := S7) ok_X12_byteAt (e_X12_byteAt e8) (isb_el g1) (by decide) rfl (Nat.le_of_ble_eq_true rfl) rfl gw_1280 dX12_next_5 ?_
    refine ev_bipush (pc := 8) (v := 32) (by decide) dX12_next_8 ?_
    refine ev_ic_eq (pc := 10) (tgt := 26) (by decide) dX12_next_10 (fun c10 => ?_) (fun c10 => ?_)
    · replace h9 := qi_t h9 c10
      exact ev_weak (qL_s (qL_n qL_nil)) (e_X12_next_26 ih h9)
    · replace h9 := qi_f h9 c10
      refine ev_aload_n (pc := 13) (i := 0) rfl rfl rfl dX12_next_13 ?_
      refine ev_aload_n (pc := 14) (i := 0) rfl rfl rfl dX12_next_14 ?_
      obtain ⟨g20, h21⟩ := qk_el h9; clear h9
      obtain ⟨x22, e23, h24⟩ := qv_el h21; clear h21
      refine xv_getIv (pc := 15) fn_904 (isb_el g20) e23 gw_1144 dX12_next_15 ?_
      obtain ⟨x25, S26, e27, h28⟩ := qc_el h24; clear h24
      refine xv_callV (pc := 18) (st := []) (as := [.int x22]) (v := (some (.int x25))) (S' := S26) ok_X12_byteAt (e_X12_byteAt e27) (isb_el g20) (by decide) rfl (Nat.le_of_ble_eq_true rfl) rfl gw_1280 dX12_next_18 ?_
      refine ev_bipush (pc := 21) (v := 10) (by decide) dX12_next_21 ?_
      refine ev_ic_ne (pc := 23) (tgt := 39) (by decide) dX12_next_23 (fun c29 => ?_) (fun c29 => ?_)
      · replace h28 := qi_f h28 c29
        refine ev_aload_n (pc := 39) (i := 0) rfl rfl rfl dX12_next_39 ?_
        refine ev_aload_n (pc := 40) (i := 0) rfl rfl rfl dX12_next_40 ?_
        obtain ⟨g31, h32⟩ := qk_el h28; clear h28
        obtain ⟨x33, e34, h35⟩ := qv_el h32; clear h32
        refine xv_getIv (pc := 41) fn_904 (isb_el g31) e34 gw_1144 dX12_next_41 ?_
        obtain ⟨S36, e37, h38⟩ := qv_el h35; clear h35
        refine yv_putI (pc := 44) fn_915 ⟨rfl, rfl⟩ (isb_el g31) e37 gw_1155 dX12_next_44 ?_
        refine ev_aload_n (pc := 47) (i := 0) rfl rfl rfl dX12_next_47 ?_
        refine ev_aload_n (pc := 48) (i := 0) rfl rfl rfl dX12_next_48 ?_
        obtain ⟨x39, e40, h41⟩ := qv_el h38; clear h38
        refine xv_getIv (pc := 49) fn_904 (is_sI (isb_el g31) e37) e40 gw_1144 dX12_next_49 ?_
        obtain ⟨x42, S43, e44, h45⟩ := qc_el h41; clear h41
        refine xv_callV (pc := 52) (st := []) (as := [.int x39]) (v := (some (.int x42))) (S' := S43) ok_X12_byteAt (e_X12_byteAt e44) (is_sI (isb_el g31) e37) (by decide) rfl (Nat.le_of_ble_eq_true rfl) rfl gw_1280 dX12_next_52 ?_
        refine ev_istore_n (pc := 55) (L' := [some (.ref l0), some (.int x42)]) (i := 1) rfl (by decide) rfl rfl dX12_next_55 ?_
        refine ev_iload_n (pc := 56) (i := 1) rfl rfl dX12_next_56 ?_
        refine ev_if_ge (pc := 57) (tgt := 68) (by decide) dX12_next_57 (fun c46 => ?_) (fun c46 => ?_)
        · replace h45 := qi_t h45 c46
          refine ev_iload_n (pc := 68) (i := 1) rfl rfl dX12_next_68 ?_
          obtain ⟨x48, S49, e50, h51⟩ := qc_el h45; clear h45
          refine xv_callS (pc := 69) (st := []) (as := [.int x42]) (v := (some (.int x48))) (S' := S49) ok_X12_isSmall (e_X12_isSmall e50) (by decide) rfl (Nat.le_of_ble_eq_true rfl) rfl gw_1284 dX12_next_69 ?_
          refine ev_if_eq (pc := 72) (tgt := 82) (by decide) dX12_next_72 (fun c52 => ?_) (fun c52 => ?_)
          · replace h51 := qi_t h51 c52
            refine ev_iload_n (pc := 82) (i := 1) rfl rfl dX12_next_82 ?_
            obtain ⟨x54, S55, e56, h57⟩ := qc_el h51; clear h51
            refine xv_callS (pc := 83) (st := []) (as := [.int x42]) (v := (some (.int x54))) (S' := S55) ok_X12_isDigit (e_X12_isDigit e56) (by decide) rfl (Nat.le_of_ble_eq_true rfl) rfl gw_1291 dX12_next_83 ?_
            refine ev_if_eq (pc := 86) (tgt := 96) (by decide) dX12_next_86 (fun c58 => ?_) (fun c58 => ?_)
            · replace h57 := qi_t h57 c58
              refine ev_aload_n (pc := 96) (i := 0) rfl rfl rfl dX12_next_96 ?_
              refine ev_iload_n (pc := 97) (i := 1) rfl rfl dX12_next_97 ?_
              refine ev_bipush (pc := 98) (v := 59) (by decide) dX12_next_98 ?_
              refine ev_ic_eq (pc := 100) (tgt := 121) (by decide) dX12_next_100 (fun c60 => ?_) (fun c60 => ?_)
              · replace h57 := qi_t h57 c60
                refine ev_iconst (pc := 121) (v := 4) (by decide) dX12_next_121 ?_
                refine ev_goto (pc := 122) (tgt := 126) (by decide) dX12_next_122 ?_
                exact ev_weak (qL_s (qL_s qL_nil)) (e_X12_next_126 h57)
              · replace h57 := qi_f h57 c60
                refine ev_iload_n (pc := 103) (i := 1) rfl rfl dX12_next_103 ?_
                refine ev_bipush (pc := 104) (v := 44) (by decide) dX12_next_104 ?_
                refine ev_ic_eq (pc := 106) (tgt := 121) (by decide) dX12_next_106 (fun c78 => ?_) (fun c78 => ?_)
                · replace h57 := qi_t h57 c78
                  refine ev_iconst (pc := 121) (v := 4) (by decide) dX12_next_121 ?_
                  refine ev_goto (pc := 122) (tgt := 126) (by decide) dX12_next_122 ?_
                  exact ev_weak (qL_s (qL_s qL_nil)) (e_X12_next_126 h57)
                · replace h57 := qi_f h57 c78
                  refine ev_iload_n (pc := 109) (i := 1) rfl rfl dX12_next_109 ?_
                  refine ev_bipush (pc := 110) (v := 45) (by decide) dX12_next_110 ?_
                  refine ev_ic_eq (pc := 112) (tgt := 121) (by decide) dX12_next_112 (fun c80 => ?_) (fun c80 => ?_)
                  · replace h57 := qi_t h57 c80
                    refine ev_iconst (pc := 121) (v := 4) (by decide) dX12_next_121 ?_
                    refine ev_goto (pc := 122) (tgt := 126) (by decide) dX12_next_122 ?_
                    exact ev_weak (qL_s (qL_s qL_nil)) (e_X12_next_126 h57)
                  · replace h57 := qi_f h57 c80
                    refine ev_iload_n (pc := 115) (i := 1) rfl rfl dX12_next_115 ?_
                    refine ev_bipush (pc := 116) (v := 47) (by decide) dX12_next_116 ?_
                    refine ev_ic_ne (pc := 118) (tgt := 125) (by decide) dX12_next_118 (fun c82 => ?_) (fun c82 => ?_)
                    · replace h57 := qi_f h57 c82
                      refine ev_iconst (pc := 125) (v := 5) (by decide) dX12_next_125 ?_
                      exact ev_weak (qL_s (qL_s qL_nil)) (e_X12_next_126 h57)
                    · replace h57 := qi_t h57 c82
                      refine ev_iconst (pc := 121) (v := 4) (by decide) dX12_next_121 ?_
                      refine ev_goto (pc := 122) (tgt := 126) (by decide) dX12_next_122 ?_
                      exact ev_weak (qL_s (qL_s qL_nil)) (e_X12_next_126 h57)
            · replace h57 := qi_f h57 c58
              refine ev_aload_n (pc := 89) (i := 0) rfl rfl rfl dX12_next_89 ?_
              obtain ⟨g84, h85⟩ := qk_el h57; clear h57
              obtain ⟨x86, S87, e88, h89⟩ := qc_el h85; clear h85
              refine xv_callV (pc := 90) (st := []) (as := []) (v := none) (S' := S87) ok_X12_readNumber (e_X12_readNumber e88) (isb_el g84) (by decide) rfl (Nat.le_of_ble_eq_true rfl) rfl gw_1298 dX12_next_90 ?_
              refine ev_goto (pc := 93) (tgt := 144) (by decide) dX12_next_93 ?_
              exact ev_return (pc := 144) rfl (qRU_eq h89) dX12_next_144
          · replace h51 := qi_f h51 c52
            refine ev_aload_n (pc := 75) (i := 0) rfl rfl rfl dX12_next_75 ?_
            obtain ⟨g90, h91⟩ := qk_el h51; clear h51
            obtain ⟨x92, S93, e94, h95⟩ := qc_el h91; clear h91
            refine xv_callV (pc := 76) (st := []) (as := []) (v := none) (S' := S93) ok_X12_readWord (e_X12_readWord e94) (isb_el g90) (by decide) rfl (Nat.le_of_ble_eq_true rfl) rfl gw_1287 dX12_next_76 ?_
            refine ev_goto (pc := 79) (tgt := 144) (by decide) dX12_next_79 ?_
            exact ev_return (pc := 144) rfl (qRU_eq h95) dX12_next_144
        · replace h45 := qi_f h45 c46
          refine ev_aload_n (pc := 60) (i := 0) rfl rfl rfl dX12_next_60 ?_
          refine ev_iconst (pc := 61) (v := 0) (by decide) dX12_next_61 ?_
          obtain ⟨g96, h97⟩ := qk_el h45; clear h45
          obtain ⟨S98, e99, h100⟩ := qv_el h97; clear h97
          refine yv_putI (pc := 62) fn_914 ⟨rfl, rfl⟩ (isb_el g96) e99 gw_1154 dX12_next_62 ?_
          refine ev_goto (pc := 65) (tgt := 144) (by decide) dX12_next_65 ?_
          exact ev_return (pc := 144) rfl (qRU_eq h100) dX12_next_144
      · replace h28 := qi_t h28 c29
        exact ev_weak (qL_s (qL_n qL_nil)) (e_X12_next_26 ih h28)
theorem e_X12_next {X : gk_X} {F : Nat} {S : gk_S} {a : Nat} {r : (Unit × gk_S)} (h0 : f_X12_next F S a = some r) : EvM X m_X12_next 7 0 0 [.ref a] S (qRU r) := by
  unfold f_X12_next at h0
  refine ev_method (by decide +kernel) rfl rfl (Nat.le_of_ble_eq_true rfl) ?_
  show EvW X m_X12_next 7 0 0 0 [some (.ref a), none] [] S _
  exact ev_weak (qL_s (qL_n qL_nil)) (e_X12_next_0 F _ _ _ h0)
theorem dX12_isLate_0 : decode cX12_isLate 0 = .ok (.aload_n 0, 1) := by decide +kernel
theorem dX12_isLate_1 : decode cX12_isLate 1 = .ok (.getfield 18, 3) := by decide +kernel
theorem dX12_isLate_4 : decode cX12_isLate 4 = .ok (.sipush 2000, 3) := by decide +kernel
theorem dX12_isLate_7 : decode cX12_isLate 7 = .ok (.if_icmp .le 24, 3) := by decide +kernel
theorem dX12_isLate_10 : decode cX12_isLate 10 = .ok (.aload_n 0, 1) := by decide +kernel
theorem dX12_isLate_11 : decode cX12_isLate 11 = .ok (.getfield 120, 3) := by decide +kernel
theorem dX12_isLate_14 : decode cX12_isLate 14 = .ok (.ifCond .eq 13, 3) := by decide +kernel
theorem dX12_isLate_17 : decode cX12_isLate 17 = .ok (.aload_n 0, 1) := by decide +kernel
theorem dX12_isLate_18 : decode cX12_isLate 18 = .ok (.getfield 117, 3) := by decide +kernel
theorem dX12_isLate_21 : decode cX12_isLate 21 = .ok (.sipush 2000, 3) := by decide +kernel
theorem dX12_isLate_24 : decode cX12_isLate 24 = .ok (.if_icmp .lt 7, 3) := by decide +kernel
theorem dX12_isLate_27 : decode cX12_isLate 27 = .ok (.iconst 1, 1) := by decide +kernel
theorem dX12_isLate_28 : decode cX12_isLate 28 = .ok (.goto 4, 3) := by decide +kernel
theorem dX12_isLate_31 : decode cX12_isLate 31 = .ok (.iconst 0, 1) := by decide +kernel
theorem dX12_isLate_32 : decode cX12_isLate 32 = .ok (.ireturn, 1) := by decide +kernel
theorem e_X12_isLate {X : gk_X} {F : Nat} {S : gk_S} {a : Nat} {r : (Int32 × gk_S)} (h0 : f_X12_isLate F S a = some r) : EvM X m_X12_isLate 1 0 0 [.ref a] S (qRI r) := by
  unfold f_X12_isLate at h0
  refine ev_method (by decide +kernel) rfl rfl (Nat.le_of_ble_eq_true rfl) ?_
  show EvW X m_X12_isLate 1 0 0 0 [some (.ref a)] [] S _
  refine ev_aload_n (pc := 0) (i := 0) rfl rfl rfl dX12_isLate_0 ?_
  obtain ⟨g1, h2⟩ := qk_el h0; clear h0
  obtain ⟨x3, e4, h5⟩ := qv_el h2; clear h2
  refine xv_getIv (pc := 1) fn_903 (isb_el g1) e4 gw_1143 dX12_isLate_1 ?_
  refine ev_sipush (pc := 4) (v := 2000) (by decide) dX12_isLate_4 ?_
  refine ev_ic_le (pc := 7) (tgt := 31) (by decide) dX12_isLate_7 (fun c6 => ?_) (fun c6 => ?_)
  · replace h5 := qi_t h5 c6
    refine ev_iconst (pc := 31) (v := 0) (by decide) dX12_isLate_31 ?_
    exact ev_ireturn (pc := 32) rfl rfl (qRI_eq h5) dX12_isLate_32
  · replace h5 := qi_f h5 c6
    refine ev_aload_n (pc := 10) (i := 0) rfl rfl rfl dX12_isLate_10 ?_
    obtain ⟨x8, e9, h10⟩ := qv_el h5; clear h5
    refine xv_getIv (pc := 11) fn_914 (isb_el g1) e9 gw_1154 dX12_isLate_11 ?_
    refine ev_if_eq (pc := 14) (tgt := 27) (by decide) dX12_isLate_14 (fun c11 => ?_) (fun c11 => ?_)
    · replace h10 := qi_t h10 c11
      refine ev_iconst (pc := 27) (v := 1) (by decide) dX12_isLate_27 ?_
      refine ev_goto (pc := 28) (tgt := 32) (by decide) dX12_isLate_28 ?_
      exact ev_ireturn (pc := 32) rfl rfl (qRI_eq h10) dX12_isLate_32
    · replace h10 := qi_f h10 c11
      refine ev_aload_n (pc := 17) (i := 0) rfl rfl rfl dX12_isLate_17 ?_
      obtain ⟨x13, e14, h15⟩ := qv_el h10; clear h10
      refine xv_getIv (pc := 18) fn_915 (isb_el g1) e14 gw_1155 dX12_isLate_18 ?_
      refine ev_sipush (pc := 21) (v := 2000) (by decide) dX12_isLate_21 ?_
      refine ev_ic_lt (pc := 24) (tgt := 31) (by decide) dX12_isLate_24 (fun c16 => ?_) (fun c16 => ?_)
      · replace h15 := qi_t h15 c16
        refine ev_iconst (pc := 31) (v := 0) (by decide) dX12_isLate_31 ?_
        exact ev_ireturn (pc := 32) rfl rfl (qRI_eq h15) dX12_isLate_32
      · replace h15 := qi_f h15 c16
        refine ev_iconst (pc := 27) (v := 1) (by decide) dX12_isLate_27 ?_
        refine ev_goto (pc := 28) (tgt := 32) (by decide) dX12_isLate_28 ?_
        exact ev_ireturn (pc := 32) rfl rfl (qRI_eq h15) dX12_isLate_32
theorem dX12_isWord_0 : decode cX12_isWord 0 = .ok (.aload_n 0, 1) := by decide +kernel
theorem dX12_isWord_1 : decode cX12_isWord 1 = .ok (.getfield 120, 3) := by decide +kernel
theorem dX12_isWord_4 : decode cX12_isWord 4 = .ok (.iconst 1, 1) := by decide +kernel
theorem dX12_isWord_5 : decode cX12_isWord 5 = .ok (.if_icmp .ne 22, 3) := by decide +kernel
theorem dX12_isWord_8 : decode cX12_isWord 8 = .ok (.aload_n 0, 1) := by decide +kernel
theorem dX12_isWord_9 : decode cX12_isWord 9 = .ok (.getfield 136, 3) := by decide +kernel
theorem dX12_isWord_12 : decode cX12_isWord 12 = .ok (.iload_n 1, 1) := by decide +kernel
theorem dX12_isWord_13 : decode cX12_isWord 13 = .ok (.if_icmp .ne 14, 3) := by decide +kernel
theorem dX12_isWord_16 : decode cX12_isWord 16 = .ok (.aload_n 0, 1) := by decide +kernel
theorem dX12_isWord_17 : decode cX12_isWord 17 = .ok (.invokevirtual 160, 3) := by decide +kernel
theorem dX12_isWord_20 : decode cX12_isWord 20 = .ok (.ifCond .ne 7, 3) := by decide +kernel
theorem dX12_isWord_23 : decode cX12_isWord 23 = .ok (.iconst 1, 1) := by decide +kernel
theorem dX12_isWord_24 : decode cX12_isWord 24 = .ok (.goto 4, 3) := by decide +kernel
theorem dX12_isWord_27 : decode cX12_isWord 27 = .ok (.iconst 0, 1) := by decide +kernel
theorem dX12_isWord_28 : decode cX12_isWord 28 = .ok (.ireturn, 1) := by decide +kernel
theorem e_X12_isWord {X : gk_X} {F : Nat} {S : gk_S} {a : Nat} {p0 : Int32} {r : (Int32 × gk_S)} (h0 : f_X12_isWord F S a p0 = some r) : EvM X m_X12_isWord 2 0 0 [.ref a, .int p0] S (qRI r) := by
  unfold f_X12_isWord at h0
  refine ev_method (by decide +kernel) rfl rfl (Nat.le_of_ble_eq_true rfl) ?_
  show EvW X m_X12_isWord 2 0 0 0 [some (.ref a), some (.int p0)] [] S _
  refine ev_aload_n (pc := 0) (i := 0) rfl rfl rfl dX12_isWord_0 ?_
  obtain ⟨g1, h2⟩ := qk_el h0; clear h0
  obtain ⟨x3, e4, h5⟩ := qv_el h2; clear h2
  refine xv_getIv (pc := 1) fn_914 (isb_el g1) e4 gw_1154 dX12_isWord_1 ?_
  refine ev_iconst (pc := 4) (v := 1) (by decide) dX12_isWord_4 ?_
  refine ev_ic_ne (pc := 5) (tgt := 27) (by decide) dX12_isWord_5 (fun c6 => ?_) (fun c6 => ?_)
  · replace h5 := qi_f h5 c6
    refine ev_iconst (pc := 27) (v := 0) (by decide) dX12_isWord_27 ?_
    exact ev_ireturn (pc := 28) rfl rfl (qRI_eq h5) dX12_isWord_28
  · replace h5 := qi_t h5 c6
    refine ev_aload_n (pc := 8) (i := 0) rfl rfl rfl dX12_isWord_8 ?_
    obtain ⟨x8, e9, h10⟩ := qv_el h5; clear h5
    refine xv_getIv (pc := 9) fn_916 (isb_el g1) e9 gw_1156 dX12_isWord_9 ?_
    refine ev_iload_n (pc := 12) (i := 1) rfl rfl dX12_isWord_12 ?_
    refine ev_ic_ne (pc := 13) (tgt := 27) (by decide) dX12_isWord_13 (fun c11 => ?_) (fun c11 => ?_)
    · replace h10 := qi_f h10 c11
      refine ev_iconst (pc := 27) (v := 0) (by decide) dX12_isWord_27 ?_
      exact ev_ireturn (pc := 28) rfl rfl (qRI_eq h10) dX12_isWord_28
    · replace h10 := qi_t h10 c11
      refine ev_aload_n (pc := 16) (i := 0) rfl rfl rfl dX12_isWord_16 ?_
      obtain ⟨x13, S14, e15, h16⟩ := qc_el h10; clear h10
      refine xv_callV (pc := 17) (st := []) (as := []) (v := (some (.int x13))) (S' := S14) ok_X12_isLate (e_X12_isLate e15) (isb_el g1) (by decide) rfl (Nat.le_of_ble_eq_true rfl) rfl gw_1316 dX12_isWord_17 ?_
      refine ev_if_ne (pc := 20) (tgt := 27) (by decide) dX12_isWord_20 (fun c17 => ?_) (fun c17 => ?_)
      · replace h16 := qi_f h16 c17
        refine ev_iconst (pc := 27) (v := 0) (by decide) dX12_isWord_27 ?_
        exact ev_ireturn (pc := 28) rfl rfl (qRI_eq h16) dX12_isWord_28
      · replace h16 := qi_t h16 c17
        refine ev_iconst (pc := 23) (v := 1) (by decide) dX12_isWord_23 ?_
        refine ev_goto (pc := 24) (tgt := 28) (by decide) dX12_isWord_24 ?_
        exact ev_ireturn (pc := 28) rfl rfl (qRI_eq h16) dX12_isWord_28
theorem dX12_isAction_0 : decode cX12_isAction 0 = .ok (.aload_n 0, 1) := by decide +kernel
theorem dX12_isAction_1 : decode cX12_isAction 1 = .ok (.getfield 120, 3) := by decide +kernel
theorem dX12_isAction_4 : decode cX12_isAction 4 = .ok (.iconst 1, 1) := by decide +kernel
theorem dX12_isAction_5 : decode cX12_isAction 5 = .ok (.if_icmp .ne 29, 3) := by decide +kernel
theorem dX12_isAction_8 : decode cX12_isAction 8 = .ok (.aload_n 0, 1) := by decide +kernel
theorem dX12_isAction_9 : decode cX12_isAction 9 = .ok (.getfield 136, 3) := by decide +kernel
theorem dX12_isAction_12 : decode cX12_isAction 12 = .ok (.ifCond .lt 22, 3) := by decide +kernel
theorem dX12_isAction_15 : decode cX12_isAction 15 = .ok (.aload_n 0, 1) := by decide +kernel
theorem dX12_isAction_16 : decode cX12_isAction 16 = .ok (.getfield 136, 3) := by decide +kernel
theorem dX12_isAction_19 : decode cX12_isAction 19 = .ok (.iconst 3, 1) := by decide +kernel
theorem dX12_isAction_20 : decode cX12_isAction 20 = .ok (.if_icmp .ge 14, 3) := by decide +kernel
theorem dX12_isAction_23 : decode cX12_isAction 23 = .ok (.aload_n 0, 1) := by decide +kernel
theorem dX12_isAction_24 : decode cX12_isAction 24 = .ok (.invokevirtual 160, 3) := by decide +kernel
theorem dX12_isAction_27 : decode cX12_isAction 27 = .ok (.ifCond .ne 7, 3) := by decide +kernel
theorem dX12_isAction_30 : decode cX12_isAction 30 = .ok (.iconst 1, 1) := by decide +kernel
theorem dX12_isAction_31 : decode cX12_isAction 31 = .ok (.goto 4, 3) := by decide +kernel
theorem dX12_isAction_34 : decode cX12_isAction 34 = .ok (.iconst 0, 1) := by decide +kernel
theorem dX12_isAction_35 : decode cX12_isAction 35 = .ok (.ireturn, 1) := by decide +kernel
theorem e_X12_isAction {X : gk_X} {F : Nat} {S : gk_S} {a : Nat} {r : (Int32 × gk_S)} (h0 : f_X12_isAction F S a = some r) : EvM X m_X12_isAction 2 0 0 [.ref a] S (qRI r) := by
  unfold f_X12_isAction at h0
  refine ev_method (by decide +kernel) rfl rfl (Nat.le_of_ble_eq_true rfl) ?_
  show EvW X m_X12_isAction 2 0 0 0 [some (.ref a)] [] S _
  refine ev_aload_n (pc := 0) (i := 0) rfl rfl rfl dX12_isAction_0 ?_
  obtain ⟨g1, h2⟩ := qk_el h0; clear h0
  obtain ⟨x3, e4, h5⟩ := qv_el h2; clear h2
  refine xv_getIv (pc := 1) fn_914 (isb_el g1) e4 gw_1154 dX12_isAction_1 ?_
  refine ev_iconst (pc := 4) (v := 1) (by decide) dX12_isAction_4 ?_
  refine ev_ic_ne (pc := 5) (tgt := 34) (by decide) dX12_isAction_5 (fun c6 => ?_) (fun c6 => ?_)
  · replace h5 := qi_f h5 c6
    refine ev_iconst (pc := 34) (v := 0) (by decide) dX12_isAction_34 ?_
    exact ev_ireturn (pc := 35) rfl rfl (qRI_eq h5) dX12_isAction_35
  · replace h5 := qi_t h5 c6
    refine ev_aload_n (pc := 8) (i := 0) rfl rfl rfl dX12_isAction_8 ?_
    obtain ⟨x8, e9, h10⟩ := qv_el h5; clear h5
    refine xv_getIv (pc := 9) fn_916 (isb_el g1) e9 gw_1156 dX12_isAction_9 ?_
    refine ev_if_lt (pc := 12) (tgt := 34) (by decide) dX12_isAction_12 (fun c11 => ?_) (fun c11 => ?_)
    · replace h10 := qi_t h10 c11
      refine ev_iconst (pc := 34) (v := 0) (by decide) dX12_isAction_34 ?_
      exact ev_ireturn (pc := 35) rfl rfl (qRI_eq h10) dX12_isAction_35
    · replace h10 := qi_f h10 c11
      refine ev_aload_n (pc := 15) (i := 0) rfl rfl rfl dX12_isAction_15 ?_
      obtain ⟨x13, e14, h15⟩ := qv_el h10; clear h10
      refine xv_getIv (pc := 16) fn_916 (isb_el g1) e14 gw_1156 dX12_isAction_16 ?_
      refine ev_iconst (pc := 19) (v := 3) (by decide) dX12_isAction_19 ?_
      refine ev_ic_ge (pc := 20) (tgt := 34) (by decide) dX12_isAction_20 (fun c16 => ?_) (fun c16 => ?_)
      · replace h15 := qi_t h15 c16
        refine ev_iconst (pc := 34) (v := 0) (by decide) dX12_isAction_34 ?_
        exact ev_ireturn (pc := 35) rfl rfl (qRI_eq h15) dX12_isAction_35
      · replace h15 := qi_f h15 c16
        refine ev_aload_n (pc := 23) (i := 0) rfl rfl rfl dX12_isAction_23 ?_
        obtain ⟨x18, S19, e20, h21⟩ := qc_el h15; clear h15
        refine xv_callV (pc := 24) (st := []) (as := []) (v := (some (.int x18))) (S' := S19) ok_X12_isLate (e_X12_isLate e20) (isb_el g1) (by decide) rfl (Nat.le_of_ble_eq_true rfl) rfl gw_1316 dX12_isAction_24 ?_
        refine ev_if_ne (pc := 27) (tgt := 34) (by decide) dX12_isAction_27 (fun c22 => ?_) (fun c22 => ?_)
        · replace h21 := qi_f h21 c22
          refine ev_iconst (pc := 34) (v := 0) (by decide) dX12_isAction_34 ?_
          exact ev_ireturn (pc := 35) rfl rfl (qRI_eq h21) dX12_isAction_35
        · replace h21 := qi_t h21 c22
          refine ev_iconst (pc := 30) (v := 1) (by decide) dX12_isAction_30 ?_
          refine ev_goto (pc := 31) (tgt := 35) (by decide) dX12_isAction_31 ?_
          exact ev_ireturn (pc := 35) rfl rfl (qRI_eq h21) dX12_isAction_35
theorem dX12_wrong_0 : decode cX12_wrong 0 = .ok (.aload_n 0, 1) := by decide +kernel
theorem dX12_wrong_1 : decode cX12_wrong 1 = .ok (.iload_n 1, 1) := by decide +kernel
theorem dX12_wrong_2 : decode cX12_wrong 2 = .ok (.putfield 154, 3) := by decide +kernel
theorem dX12_wrong_5 : decode cX12_wrong 5 = .ok (.aload_n 0, 1) := by decide +kernel
theorem dX12_wrong_6 : decode cX12_wrong 6 = .ok (.aload_n 0, 1) := by decide +kernel
theorem dX12_wrong_7 : decode cX12_wrong 7 = .ok (.getfield 117, 3) := by decide +kernel
theorem dX12_wrong_10 : decode cX12_wrong 10 = .ok (.putfield 157, 3) := by decide +kernel
theorem dX12_wrong_13 : decode cX12_wrong 13 = .ok (.iconst 0, 1) := by decide +kernel
theorem dX12_wrong_14 : decode cX12_wrong 14 = .ok (.ireturn, 1) := by decide +kernel
theorem e_X12_wrong {X : gk_X} {F : Nat} {S : gk_S} {a : Nat} {p0 : Int32} {r : (Int32 × gk_S)} (h0 : f_X12_wrong F S a p0 = some r) : EvM X m_X12_wrong 1 0 0 [.ref a, .int p0] S (qRI r) := by
  unfold f_X12_wrong at h0
  refine ev_method (by decide +kernel) rfl rfl (Nat.le_of_ble_eq_true rfl) ?_
  show EvW X m_X12_wrong 1 0 0 0 [some (.ref a), some (.int p0)] [] S _
  refine ev_aload_n (pc := 0) (i := 0) rfl rfl rfl dX12_wrong_0 ?_
  refine ev_iload_n (pc := 1) (i := 1) rfl rfl dX12_wrong_1 ?_
  obtain ⟨g1, h2⟩ := qk_el h0; clear h0
  obtain ⟨S3, e4, h5⟩ := qv_el h2; clear h2
  refine yv_putI (pc := 2) fn_918 ⟨rfl, rfl⟩ (isb_el g1) e4 gw_1158 dX12_wrong_2 ?_
  refine ev_aload_n (pc := 5) (i := 0) rfl rfl rfl dX12_wrong_5 ?_
  refine ev_aload_n (pc := 6) (i := 0) rfl rfl rfl dX12_wrong_6 ?_
  obtain ⟨x6, e7, h8⟩ := qv_el h5; clear h5
  refine xv_getIv (pc := 7) fn_915 (is_sI (isb_el g1) e4) e7 gw_1155 dX12_wrong_7 ?_
  obtain ⟨S9, e10, h11⟩ := qv_el h8; clear h8
  refine yv_putI (pc := 10) fn_919 ⟨rfl, rfl⟩ (is_sI (isb_el g1) e4) e10 gw_1159 dX12_wrong_10 ?_
  refine ev_iconst (pc := 13) (v := 0) (by decide) dX12_wrong_13 ?_
  exact ev_ireturn (pc := 14) rfl rfl (qRI_eq h11) dX12_wrong_14
theorem dX12_cant_0 : decode cX12_cant 0 = .ok (.aload_n 0, 1) := by decide +kernel
theorem dX12_cant_1 : decode cX12_cant 1 = .ok (.invokevirtual 160, 3) := by decide +kernel
theorem dX12_cant_4 : decode cX12_cant 4 = .ok (.ifCond .ne 21, 3) := by decide +kernel
theorem dX12_cant_7 : decode cX12_cant 7 = .ok (.aload_n 0, 1) := by decide +kernel
theorem dX12_cant_8 : decode cX12_cant 8 = .ok (.aload_n 0, 1) := by decide +kernel
theorem dX12_cant_9 : decode cX12_cant 9 = .ok (.getfield 120, 3) := by decide +kernel
theorem dX12_cant_12 : decode cX12_cant 12 = .ok (.iconst 5, 1) := by decide +kernel
theorem dX12_cant_13 : decode cX12_cant 13 = .ok (.if_icmp .ne 7, 3) := by decide +kernel
theorem dX12_cant_16 : decode cX12_cant 16 = .ok (.iconst 1, 1) := by decide +kernel
theorem dX12_cant_17 : decode cX12_cant 17 = .ok (.goto 4, 3) := by decide +kernel
theorem dX12_cant_20 : decode cX12_cant 20 = .ok (.iconst 2, 1) := by decide +kernel
theorem dX12_cant_21 : decode cX12_cant 21 = .ok (.invokevirtual 164, 3) := by decide +kernel
theorem dX12_cant_24 : decode cX12_cant 24 = .ok (.ireturn, 1) := by decide +kernel
theorem dX12_cant_25 : decode cX12_cant 25 = .ok (.aload_n 0, 1) := by decide +kernel
theorem dX12_cant_26 : decode cX12_cant 26 = .ok (.sipush 2000, 3) := by decide +kernel
theorem dX12_cant_29 : decode cX12_cant 29 = .ok (.putfield 117, 3) := by decide +kernel
theorem dX12_cant_32 : decode cX12_cant 32 = .ok (.aload_n 0, 1) := by decide +kernel
theorem dX12_cant_33 : decode cX12_cant 33 = .ok (.iconst 4, 1) := by decide +kernel
theorem dX12_cant_34 : decode cX12_cant 34 = .ok (.invokevirtual 164, 3) := by decide +kernel
theorem dX12_cant_37 : decode cX12_cant 37 = .ok (.ireturn, 1) := by decide +kernel
theorem e_X12_cant_21 {X : gk_X} {F : Nat} {s0 : Int32} {s1 : Nat} {S : gk_S} {r : (Int32 × gk_S)} (h0 : f_X12_cant_21 F s0 s1 S = some r) : EvW X m_X12_cant 2 0 0 21 [none] [.int s0, .ref s1] S (qRI r) := by
  unfold f_X12_cant_21 at h0
  obtain ⟨g27, h28⟩ := qk_el h0; clear h0
  obtain ⟨x29, S30, e31, h32⟩ := qc_el h28; clear h28
  refine xv_callV (pc := 21) (st := []) (as := [.int s0]) (v := (some (.int x29))) (S' := S30) ok_X12_wrong (e_X12_wrong e31) (isb_el g27) (by decide) rfl (Nat.le_of_ble_eq_true rfl) rfl gw_1328 dX12_cant_21 ?_
  obtain ⟨g33, h34⟩ := qk_el h32; clear h32
  exact ev_ireturn (pc := 24) rfl (zb_nar g33) (qRI_eq h34) dX12_cant_24
theorem e_X12_cant {X : gk_X} {F : Nat} {S : gk_S} {a : Nat} {r : (Int32 × gk_S)} (h0 : f_X12_cant F S a = some r) : EvM X m_X12_cant 2 0 0 [.ref a] S (qRI r) := by
  unfold f_X12_cant at h0
  refine ev_method (by decide +kernel) rfl rfl (Nat.le_of_ble_eq_true rfl) ?_
  show EvW X m_X12_cant 2 0 0 0 [some (.ref a)] [] S _
  refine ev_aload_n (pc := 0) (i := 0) rfl rfl rfl dX12_cant_0 ?_
  obtain ⟨g1, h2⟩ := qk_el h0; clear h0
  obtain ⟨x3, S4, e5, h6⟩ := qc_el h2; clear h2
  refine xv_callV (pc := 1) (st := []) (as := []) (v := (some (.int x3))) (S' := S4) ok_X12_isLate (e_X12_isLate e5) (isb_el g1) (by decide) rfl (Nat.le_of_ble_eq_true rfl) rfl gw_1316 dX12_cant_1 ?_
  refine ev_if_ne (pc := 4) (tgt := 25) (by decide) dX12_cant_4 (fun c7 => ?_) (fun c7 => ?_)
  · replace h6 := qi_f h6 c7
    refine ev_aload_n (pc := 25) (i := 0) rfl rfl rfl dX12_cant_25 ?_
    refine ev_sipush (pc := 26) (v := 2000) (by decide) dX12_cant_26 ?_
    obtain ⟨g9, h10⟩ := qk_el h6; clear h6
    obtain ⟨S11, e12, h13⟩ := qv_el h10; clear h10
    refine yv_putI (pc := 29) fn_915 ⟨rfl, rfl⟩ (isb_el g9) e12 gw_1155 dX12_cant_29 ?_
    refine ev_aload_n (pc := 32) (i := 0) rfl rfl rfl dX12_cant_32 ?_
    refine ev_iconst (pc := 33) (v := 4) (by decide) dX12_cant_33 ?_
    obtain ⟨x14, S15, e16, h17⟩ := qc_el h13; clear h13
    refine xv_callV (pc := 34) (st := []) (as := [.int 4]) (v := (some (.int x14))) (S' := S15) ok_X12_wrong (e_X12_wrong e16) (is_sI (isb_el g9) e12) (by decide) rfl (Nat.le_of_ble_eq_true rfl) rfl gw_1328 dX12_cant_34 ?_
    obtain ⟨g18, h19⟩ := qk_el h17; clear h17
    exact ev_ireturn (pc := 37) rfl (zb_nar g18) (qRI_eq h19) dX12_cant_37
  · replace h6 := qi_t h6 c7
    refine ev_aload_n (pc := 7) (i := 0) rfl rfl rfl dX12_cant_7 ?_
    refine ev_aload_n (pc := 8) (i := 0) rfl rfl rfl dX12_cant_8 ?_
    obtain ⟨g20, h21⟩ := qk_el h6; clear h6
    obtain ⟨x22, e23, h24⟩ := qv_el h21; clear h21
    refine xv_getIv (pc := 9) fn_914 (isb_el g20) e23 gw_1154 dX12_cant_9 ?_
    refine ev_iconst (pc := 12) (v := 5) (by decide) dX12_cant_12 ?_
    refine ev_ic_ne (pc := 13) (tgt := 20) (by decide) dX12_cant_13 (fun c25 => ?_) (fun c25 => ?_)
    · replace h24 := qi_f h24 c25
      refine ev_iconst (pc := 20) (v := 2) (by decide) dX12_cant_20 ?_
      exact ev_weak (qL_n qL_nil) (e_X12_cant_21 h24)
    · replace h24 := qi_t h24 c25
      refine ev_iconst (pc := 16) (v := 1) (by decide) dX12_cant_16 ?_
      refine ev_goto (pc := 17) (tgt := 21) (by decide) dX12_cant_17 ?_
      exact ev_weak (qL_n qL_nil) (e_X12_cant_21 h24)
theorem dX12_isSign_0 : decode cX12_isSign 0 = .ok (.aload_n 0, 1) := by decide +kernel
theorem dX12_isSign_1 : decode cX12_isSign 1 = .ok (.getfield 120, 3) := by decide +kernel
theorem dX12_isSign_4 : decode cX12_isSign 4 = .ok (.iconst 4, 1) := by decide +kernel
theorem dX12_isSign_5 : decode cX12_isSign 5 = .ok (.if_icmp .ne 22, 3) := by decide +kernel
theorem dX12_isSign_8 : decode cX12_isSign 8 = .ok (.aload_n 0, 1) := by decide +kernel
theorem dX12_isSign_9 : decode cX12_isSign 9 = .ok (.getfield 136, 3) := by decide +kernel
theorem dX12_isSign_12 : decode cX12_isSign 12 = .ok (.iload_n 1, 1) := by decide +kernel
theorem dX12_isSign_13 : decode cX12_isSign 13 = .ok (.if_icmp .ne 14, 3) := by decide +kernel
theorem dX12_isSign_16 : decode cX12_isSign 16 = .ok (.aload_n 0, 1) := by decide +kernel
theorem dX12_isSign_17 : decode cX12_isSign 17 = .ok (.invokevirtual 160, 3) := by decide +kernel
theorem dX12_isSign_20 : decode cX12_isSign 20 = .ok (.ifCond .ne 7, 3) := by decide +kernel
theorem dX12_isSign_23 : decode cX12_isSign 23 = .ok (.iconst 1, 1) := by decide +kernel
theorem dX12_isSign_24 : decode cX12_isSign 24 = .ok (.goto 4, 3) := by decide +kernel
theorem dX12_isSign_27 : decode cX12_isSign 27 = .ok (.iconst 0, 1) := by decide +kernel
theorem dX12_isSign_28 : decode cX12_isSign 28 = .ok (.ireturn, 1) := by decide +kernel
theorem e_X12_isSign {X : gk_X} {F : Nat} {S : gk_S} {a : Nat} {p0 : Int32} {r : (Int32 × gk_S)} (h0 : f_X12_isSign F S a p0 = some r) : EvM X m_X12_isSign 2 0 0 [.ref a, .int p0] S (qRI r) := by
  unfold f_X12_isSign at h0
  refine ev_method (by decide +kernel) rfl rfl (Nat.le_of_ble_eq_true rfl) ?_
  show EvW X m_X12_isSign 2 0 0 0 [some (.ref a), some (.int p0)] [] S _
  refine ev_aload_n (pc := 0) (i := 0) rfl rfl rfl dX12_isSign_0 ?_
  obtain ⟨g1, h2⟩ := qk_el h0; clear h0
  obtain ⟨x3, e4, h5⟩ := qv_el h2; clear h2
  refine xv_getIv (pc := 1) fn_914 (isb_el g1) e4 gw_1154 dX12_isSign_1 ?_
  refine ev_iconst (pc := 4) (v := 4) (by decide) dX12_isSign_4 ?_
  refine ev_ic_ne (pc := 5) (tgt := 27) (by decide) dX12_isSign_5 (fun c6 => ?_) (fun c6 => ?_)
  · replace h5 := qi_f h5 c6
    refine ev_iconst (pc := 27) (v := 0) (by decide) dX12_isSign_27 ?_
    exact ev_ireturn (pc := 28) rfl rfl (qRI_eq h5) dX12_isSign_28
  · replace h5 := qi_t h5 c6
    refine ev_aload_n (pc := 8) (i := 0) rfl rfl rfl dX12_isSign_8 ?_
    obtain ⟨x8, e9, h10⟩ := qv_el h5; clear h5
    refine xv_getIv (pc := 9) fn_916 (isb_el g1) e9 gw_1156 dX12_isSign_9 ?_
    refine ev_iload_n (pc := 12) (i := 1) rfl rfl dX12_isSign_12 ?_
    refine ev_ic_ne (pc := 13) (tgt := 27) (by decide) dX12_isSign_13 (fun c11 => ?_) (fun c11 => ?_)
    · replace h10 := qi_f h10 c11
      refine ev_iconst (pc := 27) (v := 0) (by decide) dX12_isSign_27 ?_
      exact ev_ireturn (pc := 28) rfl rfl (qRI_eq h10) dX12_isSign_28
    · replace h10 := qi_t h10 c11
      refine ev_aload_n (pc := 16) (i := 0) rfl rfl rfl dX12_isSign_16 ?_
      obtain ⟨x13, S14, e15, h16⟩ := qc_el h10; clear h10
      refine xv_callV (pc := 17) (st := []) (as := []) (v := (some (.int x13))) (S' := S14) ok_X12_isLate (e_X12_isLate e15) (isb_el g1) (by decide) rfl (Nat.le_of_ble_eq_true rfl) rfl gw_1316 dX12_isSign_17 ?_
      refine ev_if_ne (pc := 20) (tgt := 27) (by decide) dX12_isSign_20 (fun c17 => ?_) (fun c17 => ?_)
      · replace h16 := qi_f h16 c17
        refine ev_iconst (pc := 27) (v := 0) (by decide) dX12_isSign_27 ?_
        exact ev_ireturn (pc := 28) rfl rfl (qRI_eq h16) dX12_isSign_28
      · replace h16 := qi_t h16 c17
        refine ev_iconst (pc := 23) (v := 1) (by decide) dX12_isSign_23 ?_
        refine ev_goto (pc := 24) (tgt := 28) (by decide) dX12_isSign_24 ?_
        exact ev_ireturn (pc := 28) rfl rfl (qRI_eq h16) dX12_isSign_28
theorem dX12_mustSign_0 : decode cX12_mustSign 0 = .ok (.aload_n 0, 1) := by decide +kernel
theorem dX12_mustSign_1 : decode cX12_mustSign 1 = .ok (.iload_n 1, 1) := by decide +kernel
theorem dX12_mustSign_2 : decode cX12_mustSign 2 = .ok (.invokevirtual 167, 3) := by decide +kernel
theorem dX12_mustSign_5 : decode cX12_mustSign 5 = .ok (.ifCond .ne 8, 3) := by decide +kernel
theorem dX12_mustSign_8 : decode cX12_mustSign 8 = .ok (.aload_n 0, 1) := by decide +kernel
theorem dX12_mustSign_9 : decode cX12_mustSign 9 = .ok (.invokevirtual 170, 3) := by decide +kernel
theorem dX12_mustSign_12 : decode cX12_mustSign 12 = .ok (.ireturn, 1) := by decide +kernel
theorem dX12_mustSign_13 : decode cX12_mustSign 13 = .ok (.aload_n 0, 1) := by decide +kernel
theorem dX12_mustSign_14 : decode cX12_mustSign 14 = .ok (.invokevirtual 173, 3) := by decide +kernel
theorem dX12_mustSign_17 : decode cX12_mustSign 17 = .ok (.iconst 1, 1) := by decide +kernel
theorem dX12_mustSign_18 : decode cX12_mustSign 18 = .ok (.ireturn, 1) := by decide +kernel
theorem e_X12_mustSign {X : gk_X} {F : Nat} {S : gk_S} {a : Nat} {p0 : Int32} {r : (Int32 × gk_S)} (h0 : f_X12_mustSign F S a p0 = some r) : EvM X m_X12_mustSign 8 0 0 [.ref a, .int p0] S (qRI r) := by
  unfold f_X12_mustSign at h0
  refine ev_method (by decide +kernel) rfl rfl (Nat.le_of_ble_eq_true rfl) ?_
  show EvW X m_X12_mustSign 8 0 0 0 [some (.ref a), some (.int p0)] [] S _
  refine ev_aload_n (pc := 0) (i := 0) rfl rfl rfl dX12_mustSign_0 ?_
  refine ev_iload_n (pc := 1) (i := 1) rfl rfl dX12_mustSign_1 ?_
  obtain ⟨g1, h2⟩ := qk_el h0; clear h0
  obtain ⟨x3, S4, e5, h6⟩ := qc_el h2; clear h2
  refine xv_callV (pc := 2) (st := []) (as := [.int p0]) (v := (some (.int x3))) (S' := S4) ok_X12_isSign (e_X12_isSign e5) (isb_el g1) (by decide) rfl (Nat.le_of_ble_eq_true rfl) rfl gw_1336 dX12_mustSign_2 ?_
  refine ev_if_ne (pc := 5) (tgt := 13) (by decide) dX12_mustSign_5 (fun c7 => ?_) (fun c7 => ?_)
  · replace h6 := qi_f h6 c7
    refine ev_aload_n (pc := 13) (i := 0) rfl rfl rfl dX12_mustSign_13 ?_
    obtain ⟨g9, h10⟩ := qk_el h6; clear h6
    obtain ⟨x11, S12, e13, h14⟩ := qc_el h10; clear h10
    refine xv_callV (pc := 14) (st := []) (as := []) (v := none) (S' := S12) ok_X12_next (e_X12_next e13) (isb_el g9) (by decide) rfl (Nat.le_of_ble_eq_true rfl) rfl gw_1276 dX12_mustSign_14 ?_
    refine ev_iconst (pc := 17) (v := 1) (by decide) dX12_mustSign_17 ?_
    exact ev_ireturn (pc := 18) rfl rfl (qRI_eq h14) dX12_mustSign_18
  · replace h6 := qi_t h6 c7
    refine ev_aload_n (pc := 8) (i := 0) rfl rfl rfl dX12_mustSign_8 ?_
    obtain ⟨g15, h16⟩ := qk_el h6; clear h6
    obtain ⟨x17, S18, e19, h20⟩ := qc_el h16; clear h16
    refine xv_callV (pc := 9) (st := []) (as := []) (v := (some (.int x17))) (S' := S18) ok_X12_cant (e_X12_cant e19) (isb_el g15) (by decide) rfl (Nat.le_of_ble_eq_true rfl) rfl gw_1324 dX12_mustSign_9 ?_
    obtain ⟨g21, h22⟩ := qk_el h20; clear h20
    exact ev_ireturn (pc := 12) rfl (zb_nar g21) (qRI_eq h22) dX12_mustSign_12
theorem dX12_most_0 : decode cX12_most 0 = .ok (.iload_n 0, 1) := by decide +kernel
theorem dX12_most_1 : decode cX12_most 1 = .ok (.ifCond .ne 9, 3) := by decide +kernel
theorem dX12_most_4 : decode cX12_most 4 = .ok (.ldc2_w 21, 3) := by decide +kernel
theorem dX12_most_7 : decode cX12_most 7 = .ok (.goto 28, 3) := by decide +kernel
theorem dX12_most_10 : decode cX12_most 10 = .ok (.iload_n 0, 1) := by decide +kernel
theorem dX12_most_11 : decode cX12_most 11 = .ok (.iconst 1, 1) := by decide +kernel
theorem dX12_most_12 : decode cX12_most 12 = .ok (.if_icmp .ne 9, 3) := by decide +kernel
theorem dX12_most_15 : decode cX12_most 15 = .ok (.ldc2_w 23, 3) := by decide +kernel
theorem dX12_most_18 : decode cX12_most 18 = .ok (.goto 17, 3) := by decide +kernel
theorem dX12_most_21 : decode cX12_most 21 = .ok (.iload_n 0, 1) := by decide +kernel
theorem dX12_most_22 : decode cX12_most 22 = .ok (.iconst 4, 1) := by decide +kernel
theorem dX12_most_23 : decode cX12_most 23 = .ok (.if_icmp .ge 9, 3) := by decide +kernel
theorem dX12_most_26 : decode cX12_most 26 = .ok (.ldc2_w 25, 3) := by decide +kernel
theorem dX12_most_29 : decode cX12_most 29 = .ok (.goto 6, 3) := by decide +kernel
theorem dX12_most_32 : decode cX12_most 32 = .ok (.ldc2_w 27, 3) := by decide +kernel
theorem dX12_most_35 : decode cX12_most 35 = .ok (.lreturn, 1) := by decide +kernel
theorem e_X12_most {X : gk_X} {F : Nat} {S : gk_S} {p0 : Int32} {r : (Int64 × gk_S)} (h0 : f_X12_most F S p0 = some r) : EvM X m_X12_most 1 0 0 [.int p0] S (qRJ r) := by
  unfold f_X12_most at h0
  refine ev_method (by decide +kernel) rfl rfl (Nat.le_of_ble_eq_true rfl) ?_
  show EvW X m_X12_most 1 0 0 0 [some (.int p0)] [] S _
  refine ev_iload_n (pc := 0) (i := 0) rfl rfl dX12_most_0 ?_
  refine ev_if_ne (pc := 1) (tgt := 10) (by decide) dX12_most_1 (fun c1 => ?_) (fun c1 => ?_)
  · replace h0 := qi_f h0 c1
    refine ev_iload_n (pc := 10) (i := 0) rfl rfl dX12_most_10 ?_
    refine ev_iconst (pc := 11) (v := 1) (by decide) dX12_most_11 ?_
    refine ev_ic_ne (pc := 12) (tgt := 21) (by decide) dX12_most_12 (fun c3 => ?_) (fun c3 => ?_)
    · replace h0 := qi_f h0 c3
      refine ev_iload_n (pc := 21) (i := 0) rfl rfl dX12_most_21 ?_
      refine ev_iconst (pc := 22) (v := 4) (by decide) dX12_most_22 ?_
      refine ev_ic_ge (pc := 23) (tgt := 32) (by decide) dX12_most_23 (fun c5 => ?_) (fun c5 => ?_)
      · replace h0 := qi_t h0 c5
        refine ev_ldc2 (pc := 32) (v := 65535) gw_1350 dX12_most_32 ?_
        exact ev_lreturn (pc := 35) rfl (qRJ_eq h0) dX12_most_35
      · replace h0 := qi_f h0 c5
        refine ev_ldc2 (pc := 26) (v := 4294967295) gw_1349 dX12_most_26 ?_
        refine ev_goto (pc := 29) (tgt := 35) (by decide) dX12_most_29 ?_
        exact ev_lreturn (pc := 35) rfl (qRJ_eq h0) dX12_most_35
    · replace h0 := qi_t h0 c3
      refine ev_ldc2 (pc := 15) (v := 255) gw_1348 dX12_most_15 ?_
      refine ev_goto (pc := 18) (tgt := 35) (by decide) dX12_most_18 ?_
      exact ev_lreturn (pc := 35) rfl (qRJ_eq h0) dX12_most_35
  · replace h0 := qi_t h0 c1
    refine ev_ldc2 (pc := 4) (v := 3) gw_1347 dX12_most_4 ?_
    refine ev_goto (pc := 7) (tgt := 35) (by decide) dX12_most_7 ?_
    exact ev_lreturn (pc := 35) rfl (qRJ_eq h0) dX12_most_35
theorem dX12_readStates_0 : decode cX12_readStates 0 = .ok (.aload_n 0, 1) := by decide +kernel
theorem dX12_readStates_1 : decode cX12_readStates 1 = .ok (.getfield 33, 3) := by decide +kernel
theorem dX12_readStates_4 : decode cX12_readStates 4 = .ok (.iload_n 1, 1) := by decide +kernel
theorem dX12_readStates_5 : decode cX12_readStates 5 = .ok (.iconst 0, 1) := by decide +kernel
theorem dX12_readStates_6 : decode cX12_readStates 6 = .ok (.iastore, 1) := by decide +kernel
theorem dX12_readStates_7 : decode cX12_readStates 7 = .ok (.iconst 1, 1) := by decide +kernel
theorem dX12_readStates_8 : decode cX12_readStates 8 = .ok (.istore_n 2, 1) := by decide +kernel
theorem dX12_readStates_9 : decode cX12_readStates 9 = .ok (.iload_n 2, 1) := by decide +kernel
theorem dX12_readStates_10 : decode cX12_readStates 10 = .ok (.ifCond .eq 72, 3) := by decide +kernel
theorem dX12_readStates_13 : decode cX12_readStates 13 = .ok (.aload_n 0, 1) := by decide +kernel
theorem dX12_readStates_14 : decode cX12_readStates 14 = .ok (.getfield 120, 3) := by decide +kernel
theorem dX12_readStates_17 : decode cX12_readStates 17 = .ok (.iconst 1, 1) := by decide +kernel
theorem dX12_readStates_18 : decode cX12_readStates 18 = .ok (.if_icmp .ne 19, 3) := by decide +kernel
theorem dX12_readStates_21 : decode cX12_readStates 21 = .ok (.aload_n 0, 1) := by decide +kernel
theorem dX12_readStates_22 : decode cX12_readStates 22 = .ok (.getfield 136, 3) := by decide +kernel
theorem dX12_readStates_25 : decode cX12_readStates 25 = .ok (.bipush 14, 2) := by decide +kernel
theorem dX12_readStates_27 : decode cX12_readStates 27 = .ok (.if_icmp .lt 10, 3) := by decide +kernel
theorem dX12_readStates_30 : decode cX12_readStates 30 = .ok (.aload_n 0, 1) := by decide +kernel
theorem dX12_readStates_31 : decode cX12_readStates 31 = .ok (.invokevirtual 160, 3) := by decide +kernel
theorem dX12_readStates_34 : decode cX12_readStates 34 = .ok (.ifCond .eq 8, 3) := by decide +kernel
theorem dX12_readStates_37 : decode cX12_readStates 37 = .ok (.aload_n 0, 1) := by decide +kernel
theorem dX12_readStates_38 : decode cX12_readStates 38 = .ok (.invokevirtual 170, 3) := by decide +kernel
theorem dX12_readStates_41 : decode cX12_readStates 41 = .ok (.ireturn, 1) := by decide +kernel
theorem dX12_readStates_42 : decode cX12_readStates 42 = .ok (.aload_n 0, 1) := by decide +kernel
theorem dX12_readStates_43 : decode cX12_readStates 43 = .ok (.getfield 33, 3) := by decide +kernel
theorem dX12_readStates_46 : decode cX12_readStates 46 = .ok (.iload_n 1, 1) := by decide +kernel
theorem dX12_readStates_47 : decode cX12_readStates 47 = .ok (.dup2, 1) := by decide +kernel
theorem dX12_readStates_48 : decode cX12_readStates 48 = .ok (.iaload, 1) := by decide +kernel
theorem dX12_readStates_49 : decode cX12_readStates 49 = .ok (.iconst 1, 1) := by decide +kernel
theorem dX12_readStates_50 : decode cX12_readStates 50 = .ok (.aload_n 0, 1) := by decide +kernel
theorem dX12_readStates_51 : decode cX12_readStates 51 = .ok (.getfield 136, 3) := by decide +kernel
theorem dX12_readStates_54 : decode cX12_readStates 54 = .ok (.bipush 14, 2) := by decide +kernel
theorem dX12_readStates_56 : decode cX12_readStates 56 = .ok (.isub, 1) := by decide +kernel
theorem dX12_readStates_57 : decode cX12_readStates 57 = .ok (.ishl, 1) := by decide +kernel
theorem dX12_readStates_58 : decode cX12_readStates 58 = .ok (.ior, 1) := by decide +kernel
theorem dX12_readStates_59 : decode cX12_readStates 59 = .ok (.iastore, 1) := by decide +kernel
theorem dX12_readStates_60 : decode cX12_readStates 60 = .ok (.aload_n 0, 1) := by decide +kernel
theorem dX12_readStates_61 : decode cX12_readStates 61 = .ok (.invokevirtual 173, 3) := by decide +kernel
theorem dX12_readStates_64 : decode cX12_readStates 64 = .ok (.aload_n 0, 1) := by decide +kernel
theorem dX12_readStates_65 : decode cX12_readStates 65 = .ok (.bipush 44, 2) := by decide +kernel
theorem dX12_readStates_67 : decode cX12_readStates 67 = .ok (.invokevirtual 167, 3) := by decide +kernel
theorem dX12_readStates_70 : decode cX12_readStates 70 = .ok (.istore_n 2, 1) := by decide +kernel
theorem dX12_readStates_71 : decode cX12_readStates 71 = .ok (.iload_n 2, 1) := by decide +kernel
theorem dX12_readStates_72 : decode cX12_readStates 72 = .ok (.ifCond .eq (-63), 3) := by decide +kernel
theorem dX12_readStates_75 : decode cX12_readStates 75 = .ok (.aload_n 0, 1) := by decide +kernel
theorem dX12_readStates_76 : decode cX12_readStates 76 = .ok (.invokevirtual 173, 3) := by decide +kernel
theorem dX12_readStates_79 : decode cX12_readStates 79 = .ok (.goto (-70), 3) := by decide +kernel
theorem dX12_readStates_82 : decode cX12_readStates 82 = .ok (.iconst 1, 1) := by decide +kernel
theorem dX12_readStates_83 : decode cX12_readStates 83 = .ok (.ireturn, 1) := by decide +kernel
theorem e_X12_readStates_37 {X : gk_X} {F : Nat} {l0 : Nat} {S : gk_S} {r : (Int32 × gk_S)} (h0 : f_X12_readStates_37 F l0 S = some r) : EvW X m_X12_readStates 8 0 0 37 [some (.ref l0), none, none] [] S (qRI r) := by
  unfold f_X12_readStates_37 at h0
  refine ev_aload_n (pc := 37) (i := 0) rfl rfl rfl dX12_readStates_37 ?_
  obtain ⟨g22, h23⟩ := qk_el h0; clear h0
  obtain ⟨x24, S25, e26, h27⟩ := qc_el h23; clear h23
  refine xv_callV (pc := 38) (st := []) (as := []) (v := (some (.int x24))) (S' := S25) ok_X12_cant (e_X12_cant e26) (isb_el g22) (by decide) rfl (Nat.le_of_ble_eq_true rfl) rfl gw_1324 dX12_readStates_38 ?_
  obtain ⟨g28, h29⟩ := qk_el h27; clear h27
  exact ev_ireturn (pc := 41) rfl (zb_nar g28) (qRI_eq h29) dX12_readStates_41
theorem e_X12_readStates_9 {X : gk_X} {F : Nat} : ∀ (n : Nat) (l0 : Nat) (l1 : Int32) (l2 : Int32) (S : gk_S) (r : (Int32 × gk_S)), f_X12_readStates_9 F n l0 l1 l2 S = some r → EvW X m_X12_readStates 8 0 0 9 [some (.ref l0), some (.int l1), some (.int l2)] [] S (qRI r) := by
  intro n
  induction n with
  | zero => intro l0 l1 l2 S r h0; rw [f_X12_readStates_9] at h0; cases h0
  | succ n ih =>
    intro l0 l1 l2 S r h0; rw [f_X12_readStates_9] at h0
    refine ev_iload_n (pc := 9) (i := 2) rfl rfl dX12_readStates_9 ?_
    refine ev_if_eq (pc := 10) (tgt := 82) (by decide) dX12_readStates_10 (fun c13 => ?_) (fun c13 => ?_)
    · replace h0 := qi_t h0 c13
      refine ev_iconst (pc := 82) (v := 1) (by decide) dX12_readStates_82 ?_
      exact ev_ireturn (pc := 83) rfl rfl (qRI_eq h0) dX12_readStates_83
    · replace h0 := qi_f h0 c13
      refine ev_aload_n (pc := 13) (i := 0) rfl rfl rfl dX12_readStates_13 ?_
      obtain ⟨g15, h16⟩ := qk_el h0; clear h0
      obtain ⟨x17, e18, h19⟩ := qv_el h16; clear h16
      refine xv_getIv (pc := 14) fn_914 (isb_el g15) e18 gw_1154 dX12_readStates_14 ?_
      refine ev_iconst (pc := 17) (v := 1) (by decide) dX12_readStates_17 ?_
      refine ev_ic_ne (pc := 18) (tgt := 37) (by decide) dX12_readStates_18 (fun c20 => ?_) (fun c20 => ?_)
      · replace h19 := qi_f h19 c20
        exact ev_weak (qL_s (qL_n (qL_n qL_nil))) (e_X12_readStates_37 h19)
      · replace h19 := qi_t h19 c20
        refine ev_aload_n (pc := 21) (i := 0) rfl rfl rfl dX12_readStates_21 ?_
        obtain ⟨x30, e31, h32⟩ := qv_el h19; clear h19
        refine xv_getIv (pc := 22) fn_916 (isb_el g15) e31 gw_1156 dX12_readStates_22 ?_
        refine ev_bipush (pc := 25) (v := 14) (by decide) dX12_readStates_25 ?_
        refine ev_ic_lt (pc := 27) (tgt := 37) (by decide) dX12_readStates_27 (fun c33 => ?_) (fun c33 => ?_)
        · replace h32 := qi_t h32 c33
          exact ev_weak (qL_s (qL_n (qL_n qL_nil))) (e_X12_readStates_37 h32)
        · replace h32 := qi_f h32 c33
          refine ev_aload_n (pc := 30) (i := 0) rfl rfl rfl dX12_readStates_30 ?_
          obtain ⟨x35, S36, e37, h38⟩ := qc_el h32; clear h32
          refine xv_callV (pc := 31) (st := []) (as := []) (v := (some (.int x35))) (S' := S36) ok_X12_isLate (e_X12_isLate e37) (isb_el g15) (by decide) rfl (Nat.le_of_ble_eq_true rfl) rfl gw_1316 dX12_readStates_31 ?_
          refine ev_if_eq (pc := 34) (tgt := 42) (by decide) dX12_readStates_34 (fun c39 => ?_) (fun c39 => ?_)
          · replace h38 := qi_t h38 c39
            refine ev_aload_n (pc := 42) (i := 0) rfl rfl rfl dX12_readStates_42 ?_
            obtain ⟨g41, h42⟩ := qk_el h38; clear h38
            obtain ⟨b43, e44, h45⟩ := qP_el h42; clear h42
            refine xv_getP (pc := 43) fn_908 (isb_el g41) e44 gw_1148 dX12_readStates_43 ?_
            refine ev_iload_n (pc := 46) (i := 1) rfl rfl dX12_readStates_46 ?_
            refine ev_dup2 (pc := 47) rfl dX12_readStates_47 ?_
            obtain ⟨g46, h47⟩ := qk_el h45; clear h45
            obtain ⟨g48, h49⟩ := qk_el h47; clear h47
            obtain ⟨x50, e51, h52⟩ := qv_el h49; clear h49
            refine yv_iald (pc := 48) (isb_el g46) (inb_el g48) e51 dX12_readStates_48 ?_
            refine ev_iconst (pc := 49) (v := 1) (by decide) dX12_readStates_49 ?_
            refine ev_aload_n (pc := 50) (i := 0) rfl rfl rfl dX12_readStates_50 ?_
            obtain ⟨x53, e54, h55⟩ := qv_el h52; clear h52
            refine xv_getIv (pc := 51) fn_916 (isb_el g41) e54 gw_1156 dX12_readStates_51 ?_
            refine ev_bipush (pc := 54) (v := 14) (by decide) dX12_readStates_54 ?_
            refine ev_isub (pc := 56)  dX12_readStates_56 ?_
            refine ev_ishl (pc := 57)  dX12_readStates_57 ?_
            refine ev_ior (pc := 58)  dX12_readStates_58 ?_
            obtain ⟨g56, h57⟩ := qk_el h55; clear h55
            obtain ⟨S58, e59, h60⟩ := qv_el h57; clear h57
            refine yv_iast (pc := 59) (isb_el g46) (inb_el g56) e59 dX12_readStates_59 ?_
            refine ev_aload_n (pc := 60) (i := 0) rfl rfl rfl dX12_readStates_60 ?_
            obtain ⟨x61, S62, e63, h64⟩ := qc_el h60; clear h60
            refine xv_callV (pc := 61) (st := []) (as := []) (v := none) (S' := S62) ok_X12_next (e_X12_next e63) (is_wI (isb_el g41) e59) (by decide) rfl (Nat.le_of_ble_eq_true rfl) rfl gw_1276 dX12_readStates_61 ?_
            refine ev_aload_n (pc := 64) (i := 0) rfl rfl rfl dX12_readStates_64 ?_
            refine ev_bipush (pc := 65) (v := 44) (by decide) dX12_readStates_65 ?_
            obtain ⟨g65, h66⟩ := qk_el h64; clear h64
            obtain ⟨x67, S68, e69, h70⟩ := qc_el h66; clear h66
            refine xv_callV (pc := 67) (st := []) (as := [.int 44]) (v := (some (.int x67))) (S' := S68) ok_X12_isSign (e_X12_isSign e69) (isb_el g65) (by decide) rfl (Nat.le_of_ble_eq_true rfl) rfl gw_1336 dX12_readStates_67 ?_
            refine ev_istore_n (pc := 70) (L' := [some (.ref l0), some (.int l1), some (.int x67)]) (i := 2) rfl (by decide) rfl rfl dX12_readStates_70 ?_
            refine ev_iload_n (pc := 71) (i := 2) rfl rfl dX12_readStates_71 ?_
            refine ev_if_eq (pc := 72) (tgt := 9) (by decide) dX12_readStates_72 (fun c71 => ?_) (fun c71 => ?_)
            · replace h70 := qi_t h70 c71
              exact (ev_weak (qL_s (qL_s (qL_s qL_nil))) (ih _ _ _ _ _ h70))
            · replace h70 := qi_f h70 c71
              refine ev_aload_n (pc := 75) (i := 0) rfl rfl rfl dX12_readStates_75 ?_
              obtain ⟨g73, h74⟩ := qk_el h70; clear h70
              obtain ⟨x75, S76, e77, h78⟩ := qc_el h74; clear h74
              refine xv_callV (pc := 76) (st := []) (as := []) (v := none) (S' := S76) ok_X12_next (e_X12_next e77) (isb_el g73) (by decide) rfl (Nat.le_of_ble_eq_true rfl) rfl gw_1276 dX12_readStates_76 ?_
              refine ev_goto (pc := 79) (tgt := 9) (by decide) dX12_readStates_79 ?_
              exact (ev_weak (qL_s (qL_s (qL_s qL_nil))) (ih _ _ _ _ _ h78))
          · replace h38 := qi_f h38 c39
            exact ev_weak (qL_s (qL_n (qL_n qL_nil))) (e_X12_readStates_37 h38)
theorem e_X12_readStates {X : gk_X} {F : Nat} {S : gk_S} {a : Nat} {p0 : Int32} {r : (Int32 × gk_S)} (h0 : f_X12_readStates F S a p0 = some r) : EvM X m_X12_readStates 8 0 0 [.ref a, .int p0] S (qRI r) := by
  unfold f_X12_readStates at h0
  refine ev_method (by decide +kernel) rfl rfl (Nat.le_of_ble_eq_true rfl) ?_
  show EvW X m_X12_readStates 8 0 0 0 [some (.ref a), some (.int p0), none] [] S _
  refine ev_aload_n (pc := 0) (i := 0) rfl rfl rfl dX12_readStates_0 ?_
  obtain ⟨g1, h2⟩ := qk_el h0; clear h0
  obtain ⟨b3, e4, h5⟩ := qP_el h2; clear h2
  refine xv_getP (pc := 1) fn_908 (isb_el g1) e4 gw_1148 dX12_readStates_1 ?_
  refine ev_iload_n (pc := 4) (i := 1) rfl rfl dX12_readStates_4 ?_
  refine ev_iconst (pc := 5) (v := 0) (by decide) dX12_readStates_5 ?_
  obtain ⟨g6, h7⟩ := qk_el h5; clear h5
  obtain ⟨g8, h9⟩ := qk_el h7; clear h7
  obtain ⟨S10, e11, h12⟩ := qv_el h9; clear h9
  refine yv_iast (pc := 6) (isb_el g6) (inb_el g8) e11 dX12_readStates_6 ?_
  refine ev_iconst (pc := 7) (v := 1) (by decide) dX12_readStates_7 ?_
  refine ev_istore_n (pc := 8) (L' := [some (.ref a), some (.int p0), some (.int 1)]) (i := 2) rfl (by decide) rfl rfl dX12_readStates_8 ?_
  exact ev_weak (qL_s (qL_s (qL_s qL_nil))) (e_X12_readStates_9 F _ _ _ _ _ h12)
theorem dX12_readAddresses_0 : decode cX12_readAddresses 0 = .ok (.aload_n 0, 1) := by decide +kernel
theorem dX12_readAddresses_1 : decode cX12_readAddresses 1 = .ok (.getfield 120, 3) := by decide +kernel
theorem dX12_readAddresses_4 : decode cX12_readAddresses 4 = .ok (.iconst 3, 1) := by decide +kernel
theorem dX12_readAddresses_5 : decode cX12_readAddresses 5 = .ok (.if_icmp .ne 10, 3) := by decide +kernel
theorem dX12_readAddresses_8 : decode cX12_readAddresses 8 = .ok (.aload_n 0, 1) := by decide +kernel
theorem dX12_readAddresses_9 : decode cX12_readAddresses 9 = .ok (.invokevirtual 160, 3) := by decide +kernel
theorem dX12_readAddresses_12 : decode cX12_readAddresses 12 = .ok (.ifCond .eq 8, 3) := by decide +kernel
theorem dX12_readAddresses_15 : decode cX12_readAddresses 15 = .ok (.aload_n 0, 1) := by decide +kernel
theorem dX12_readAddresses_16 : decode cX12_readAddresses 16 = .ok (.invokevirtual 170, 3) := by decide +kernel
theorem dX12_readAddresses_19 : decode cX12_readAddresses 19 = .ok (.ireturn, 1) := by decide +kernel
theorem dX12_readAddresses_20 : decode cX12_readAddresses 20 = .ok (.aload_n 0, 1) := by decide +kernel
theorem dX12_readAddresses_21 : decode cX12_readAddresses 21 = .ok (.getfield 36, 3) := by decide +kernel
theorem dX12_readAddresses_24 : decode cX12_readAddresses 24 = .ok (.iload_n 1, 1) := by decide +kernel
theorem dX12_readAddresses_25 : decode cX12_readAddresses 25 = .ok (.aload_n 0, 1) := by decide +kernel
theorem dX12_readAddresses_26 : decode cX12_readAddresses 26 = .ok (.getfield 143, 3) := by decide +kernel
theorem dX12_readAddresses_29 : decode cX12_readAddresses 29 = .ok (.lastore, 1) := by decide +kernel
theorem dX12_readAddresses_30 : decode cX12_readAddresses 30 = .ok (.aload_n 0, 1) := by decide +kernel
theorem dX12_readAddresses_31 : decode cX12_readAddresses 31 = .ok (.getfield 40, 3) := by decide +kernel
theorem dX12_readAddresses_34 : decode cX12_readAddresses 34 = .ok (.iload_n 1, 1) := by decide +kernel
theorem dX12_readAddresses_35 : decode cX12_readAddresses 35 = .ok (.aload_n 0, 1) := by decide +kernel
theorem dX12_readAddresses_36 : decode cX12_readAddresses 36 = .ok (.getfield 143, 3) := by decide +kernel
theorem dX12_readAddresses_39 : decode cX12_readAddresses 39 = .ok (.lastore, 1) := by decide +kernel
theorem dX12_readAddresses_40 : decode cX12_readAddresses 40 = .ok (.aload_n 0, 1) := by decide +kernel
theorem dX12_readAddresses_41 : decode cX12_readAddresses 41 = .ok (.invokevirtual 173, 3) := by decide +kernel
theorem dX12_readAddresses_44 : decode cX12_readAddresses 44 = .ok (.aload_n 0, 1) := by decide +kernel
theorem dX12_readAddresses_45 : decode cX12_readAddresses 45 = .ok (.bipush 45, 2) := by decide +kernel
theorem dX12_readAddresses_47 : decode cX12_readAddresses 47 = .ok (.invokevirtual 167, 3) := by decide +kernel
theorem dX12_readAddresses_50 : decode cX12_readAddresses 50 = .ok (.ifCond .eq 63, 3) := by decide +kernel
theorem dX12_readAddresses_53 : decode cX12_readAddresses 53 = .ok (.aload_n 0, 1) := by decide +kernel
theorem dX12_readAddresses_54 : decode cX12_readAddresses 54 = .ok (.invokevirtual 173, 3) := by decide +kernel
theorem dX12_readAddresses_57 : decode cX12_readAddresses 57 = .ok (.aload_n 0, 1) := by decide +kernel
theorem dX12_readAddresses_58 : decode cX12_readAddresses 58 = .ok (.getfield 120, 3) := by decide +kernel
theorem dX12_readAddresses_61 : decode cX12_readAddresses 61 = .ok (.iconst 3, 1) := by decide +kernel
theorem dX12_readAddresses_62 : decode cX12_readAddresses 62 = .ok (.if_icmp .ne 10, 3) := by decide +kernel
theorem dX12_readAddresses_65 : decode cX12_readAddresses 65 = .ok (.aload_n 0, 1) := by decide +kernel
theorem dX12_readAddresses_66 : decode cX12_readAddresses 66 = .ok (.invokevirtual 160, 3) := by decide +kernel
theorem dX12_readAddresses_69 : decode cX12_readAddresses 69 = .ok (.ifCond .eq 8, 3) := by decide +kernel
theorem dX12_readAddresses_72 : decode cX12_readAddresses 72 = .ok (.aload_n 0, 1) := by decide +kernel
theorem dX12_readAddresses_73 : decode cX12_readAddresses 73 = .ok (.invokevirtual 170, 3) := by decide +kernel
theorem dX12_readAddresses_76 : decode cX12_readAddresses 76 = .ok (.ireturn, 1) := by decide +kernel
theorem dX12_readAddresses_77 : decode cX12_readAddresses 77 = .ok (.aload_n 0, 1) := by decide +kernel
theorem dX12_readAddresses_78 : decode cX12_readAddresses 78 = .ok (.getfield 143, 3) := by decide +kernel
theorem dX12_readAddresses_81 : decode cX12_readAddresses 81 = .ok (.aload_n 0, 1) := by decide +kernel
theorem dX12_readAddresses_82 : decode cX12_readAddresses 82 = .ok (.getfield 36, 3) := by decide +kernel
theorem dX12_readAddresses_85 : decode cX12_readAddresses 85 = .ok (.iload_n 1, 1) := by decide +kernel
theorem dX12_readAddresses_86 : decode cX12_readAddresses 86 = .ok (.laload, 1) := by decide +kernel
theorem dX12_readAddresses_87 : decode cX12_readAddresses 87 = .ok (.lcmp, 1) := by decide +kernel
theorem dX12_readAddresses_88 : decode cX12_readAddresses 88 = .ok (.ifCond .ge 9, 3) := by decide +kernel
theorem dX12_readAddresses_91 : decode cX12_readAddresses 91 = .ok (.aload_n 0, 1) := by decide +kernel
theorem dX12_readAddresses_92 : decode cX12_readAddresses 92 = .ok (.iconst 3, 1) := by decide +kernel
theorem dX12_readAddresses_93 : decode cX12_readAddresses 93 = .ok (.invokevirtual 164, 3) := by decide +kernel
theorem dX12_readAddresses_96 : decode cX12_readAddresses 96 = .ok (.ireturn, 1) := by decide +kernel
theorem dX12_readAddresses_97 : decode cX12_readAddresses 97 = .ok (.aload_n 0, 1) := by decide +kernel
theorem dX12_readAddresses_98 : decode cX12_readAddresses 98 = .ok (.getfield 40, 3) := by decide +kernel
theorem dX12_readAddresses_101 : decode cX12_readAddresses 101 = .ok (.iload_n 1, 1) := by decide +kernel
theorem dX12_readAddresses_102 : decode cX12_readAddresses 102 = .ok (.aload_n 0, 1) := by decide +kernel
theorem dX12_readAddresses_103 : decode cX12_readAddresses 103 = .ok (.getfield 143, 3) := by decide +kernel
theorem dX12_readAddresses_106 : decode cX12_readAddresses 106 = .ok (.lastore, 1) := by decide +kernel
theorem dX12_readAddresses_107 : decode cX12_readAddresses 107 = .ok (.aload_n 0, 1) := by decide +kernel
theorem dX12_readAddresses_108 : decode cX12_readAddresses 108 = .ok (.invokevirtual 173, 3) := by decide +kernel
theorem dX12_readAddresses_111 : decode cX12_readAddresses 111 = .ok (.iconst 1, 1) := by decide +kernel
theorem dX12_readAddresses_112 : decode cX12_readAddresses 112 = .ok (.ireturn, 1) := by decide +kernel
theorem dX12_readAddresses_113 : decode cX12_readAddresses 113 = .ok (.aload_n 0, 1) := by decide +kernel
theorem dX12_readAddresses_114 : decode cX12_readAddresses 114 = .ok (.bipush 47, 2) := by decide +kernel
theorem dX12_readAddresses_116 : decode cX12_readAddresses 116 = .ok (.invokevirtual 167, 3) := by decide +kernel
theorem dX12_readAddresses_119 : decode cX12_readAddresses 119 = .ok (.ifCond .ne 5, 3) := by decide +kernel
theorem dX12_readAddresses_122 : decode cX12_readAddresses 122 = .ok (.iconst 1, 1) := by decide +kernel
theorem dX12_readAddresses_123 : decode cX12_readAddresses 123 = .ok (.ireturn, 1) := by decide +kernel
theorem dX12_readAddresses_124 : decode cX12_readAddresses 124 = .ok (.aload_n 0, 1) := by decide +kernel
theorem dX12_readAddresses_125 : decode cX12_readAddresses 125 = .ok (.invokevirtual 173, 3) := by decide +kernel
theorem dX12_readAddresses_128 : decode cX12_readAddresses 128 = .ok (.aload_n 0, 1) := by decide +kernel
theorem dX12_readAddresses_129 : decode cX12_readAddresses 129 = .ok (.getfield 120, 3) := by decide +kernel
theorem dX12_readAddresses_132 : decode cX12_readAddresses 132 = .ok (.iconst 2, 1) := by decide +kernel
theorem dX12_readAddresses_133 : decode cX12_readAddresses 133 = .ok (.if_icmp .ne 10, 3) := by decide +kernel
theorem dX12_readAddresses_136 : decode cX12_readAddresses 136 = .ok (.aload_n 0, 1) := by decide +kernel
theorem dX12_readAddresses_137 : decode cX12_readAddresses 137 = .ok (.invokevirtual 160, 3) := by decide +kernel
theorem dX12_readAddresses_140 : decode cX12_readAddresses 140 = .ok (.ifCond .eq 8, 3) := by decide +kernel
theorem dX12_readAddresses_143 : decode cX12_readAddresses 143 = .ok (.aload_n 0, 1) := by decide +kernel
theorem dX12_readAddresses_144 : decode cX12_readAddresses 144 = .ok (.invokevirtual 170, 3) := by decide +kernel
theorem dX12_readAddresses_147 : decode cX12_readAddresses 147 = .ok (.ireturn, 1) := by decide +kernel
theorem dX12_readAddresses_148 : decode cX12_readAddresses 148 = .ok (.aload_n 0, 1) := by decide +kernel
theorem dX12_readAddresses_149 : decode cX12_readAddresses 149 = .ok (.getfield 143, 3) := by decide +kernel
theorem dX12_readAddresses_152 : decode cX12_readAddresses 152 = .ok (.ldc2_w 218, 3) := by decide +kernel
theorem dX12_readAddresses_155 : decode cX12_readAddresses 155 = .ok (.lcmp, 1) := by decide +kernel
theorem dX12_readAddresses_156 : decode cX12_readAddresses 156 = .ok (.ifCond .le 9, 3) := by decide +kernel
theorem dX12_readAddresses_159 : decode cX12_readAddresses 159 = .ok (.aload_n 0, 1) := by decide +kernel
theorem dX12_readAddresses_160 : decode cX12_readAddresses 160 = .ok (.iconst 3, 1) := by decide +kernel
theorem dX12_readAddresses_161 : decode cX12_readAddresses 161 = .ok (.invokevirtual 164, 3) := by decide +kernel
theorem dX12_readAddresses_164 : decode cX12_readAddresses 164 = .ok (.ireturn, 1) := by decide +kernel
theorem dX12_readAddresses_165 : decode cX12_readAddresses 165 = .ok (.ldc2_w 25, 3) := by decide +kernel
theorem dX12_readAddresses_168 : decode cX12_readAddresses 168 = .ok (.aload_n 0, 1) := by decide +kernel
theorem dX12_readAddresses_169 : decode cX12_readAddresses 169 = .ok (.getfield 143, 3) := by decide +kernel
theorem dX12_readAddresses_172 : decode cX12_readAddresses 172 = .ok (.l2i, 1) := by decide +kernel
theorem dX12_readAddresses_173 : decode cX12_readAddresses 173 = .ok (.lshr, 1) := by decide +kernel
theorem dX12_readAddresses_174 : decode cX12_readAddresses 174 = .ok (.lstore_n 2, 1) := by decide +kernel
theorem dX12_readAddresses_175 : decode cX12_readAddresses 175 = .ok (.aload_n 0, 1) := by decide +kernel
theorem dX12_readAddresses_176 : decode cX12_readAddresses 176 = .ok (.getfield 36, 3) := by decide +kernel
theorem dX12_readAddresses_179 : decode cX12_readAddresses 179 = .ok (.iload_n 1, 1) := by decide +kernel
theorem dX12_readAddresses_180 : decode cX12_readAddresses 180 = .ok (.aload_n 0, 1) := by decide +kernel
theorem dX12_readAddresses_181 : decode cX12_readAddresses 181 = .ok (.getfield 36, 3) := by decide +kernel
theorem dX12_readAddresses_184 : decode cX12_readAddresses 184 = .ok (.iload_n 1, 1) := by decide +kernel
theorem dX12_readAddresses_185 : decode cX12_readAddresses 185 = .ok (.laload, 1) := by decide +kernel
theorem dX12_readAddresses_186 : decode cX12_readAddresses 186 = .ok (.lload_n 2, 1) := by decide +kernel
theorem dX12_readAddresses_187 : decode cX12_readAddresses 187 = .ok (.ldc2_w 220, 3) := by decide +kernel
theorem dX12_readAddresses_190 : decode cX12_readAddresses 190 = .ok (.lxor, 1) := by decide +kernel
theorem dX12_readAddresses_191 : decode cX12_readAddresses 191 = .ok (.land, 1) := by decide +kernel
theorem dX12_readAddresses_192 : decode cX12_readAddresses 192 = .ok (.lastore, 1) := by decide +kernel
theorem dX12_readAddresses_193 : decode cX12_readAddresses 193 = .ok (.aload_n 0, 1) := by decide +kernel
theorem dX12_readAddresses_194 : decode cX12_readAddresses 194 = .ok (.getfield 40, 3) := by decide +kernel
theorem dX12_readAddresses_197 : decode cX12_readAddresses 197 = .ok (.iload_n 1, 1) := by decide +kernel
theorem dX12_readAddresses_198 : decode cX12_readAddresses 198 = .ok (.aload_n 0, 1) := by decide +kernel
theorem dX12_readAddresses_199 : decode cX12_readAddresses 199 = .ok (.getfield 36, 3) := by decide +kernel
theorem dX12_readAddresses_202 : decode cX12_readAddresses 202 = .ok (.iload_n 1, 1) := by decide +kernel
theorem dX12_readAddresses_203 : decode cX12_readAddresses 203 = .ok (.laload, 1) := by decide +kernel
theorem dX12_readAddresses_204 : decode cX12_readAddresses 204 = .ok (.lload_n 2, 1) := by decide +kernel
theorem dX12_readAddresses_205 : decode cX12_readAddresses 205 = .ok (.lor, 1) := by decide +kernel
theorem dX12_readAddresses_206 : decode cX12_readAddresses 206 = .ok (.lastore, 1) := by decide +kernel
theorem dX12_readAddresses_207 : decode cX12_readAddresses 207 = .ok (.aload_n 0, 1) := by decide +kernel
theorem dX12_readAddresses_208 : decode cX12_readAddresses 208 = .ok (.invokevirtual 173, 3) := by decide +kernel
theorem dX12_readAddresses_211 : decode cX12_readAddresses 211 = .ok (.iconst 1, 1) := by decide +kernel
theorem dX12_readAddresses_212 : decode cX12_readAddresses 212 = .ok (.ireturn, 1) := by decide +kernel
theorem e_X12_readAddresses_15 {X : gk_X} {F : Nat} {l0 : Nat} {S : gk_S} {r : (Int32 × gk_S)} (h0 : f_X12_readAddresses_15 F l0 S = some r) : EvW X m_X12_readAddresses 8 0 0 15 [some (.ref l0), none, none, none] [] S (qRI r) := by
  unfold f_X12_readAddresses_15 at h0
  refine ev_aload_n (pc := 15) (i := 0) rfl rfl rfl dX12_readAddresses_15 ?_
  obtain ⟨g8, h9⟩ := qk_el h0; clear h0
  obtain ⟨x10, S11, e12, h13⟩ := qc_el h9; clear h9
  refine xv_callV (pc := 16) (st := []) (as := []) (v := (some (.int x10))) (S' := S11) ok_X12_cant (e_X12_cant e12) (isb_el g8) (by decide) rfl (Nat.le_of_ble_eq_true rfl) rfl gw_1324 dX12_readAddresses_16 ?_
  obtain ⟨g14, h15⟩ := qk_el h13; clear h13
  exact ev_ireturn (pc := 19) rfl (zb_nar g14) (qRI_eq h15) dX12_readAddresses_19
theorem e_X12_readAddresses_143 {X : gk_X} {F : Nat} {l0 : Nat} {S : gk_S} {r : (Int32 × gk_S)} (h0 : f_X12_readAddresses_143 F l0 S = some r) : EvW X m_X12_readAddresses 8 0 0 143 [some (.ref l0), none, none, none] [] S (qRI r) := by
  unfold f_X12_readAddresses_143 at h0
  refine ev_aload_n (pc := 143) (i := 0) rfl rfl rfl dX12_readAddresses_143 ?_
  obtain ⟨g83, h84⟩ := qk_el h0; clear h0
  obtain ⟨x85, S86, e87, h88⟩ := qc_el h84; clear h84
  refine xv_callV (pc := 144) (st := []) (as := []) (v := (some (.int x85))) (S' := S86) ok_X12_cant (e_X12_cant e87) (isb_el g83) (by decide) rfl (Nat.le_of_ble_eq_true rfl) rfl gw_1324 dX12_readAddresses_144 ?_
  obtain ⟨g89, h90⟩ := qk_el h88; clear h88
  exact ev_ireturn (pc := 147) rfl (zb_nar g89) (qRI_eq h90) dX12_readAddresses_147
theorem e_X12_readAddresses_72 {X : gk_X} {F : Nat} {l0 : Nat} {S : gk_S} {r : (Int32 × gk_S)} (h0 : f_X12_readAddresses_72 F l0 S = some r) : EvW X m_X12_readAddresses 8 0 0 72 [some (.ref l0), none, none, none] [] S (qRI r) := by
  unfold f_X12_readAddresses_72 at h0
  refine ev_aload_n (pc := 72) (i := 0) rfl rfl rfl dX12_readAddresses_72 ?_
  obtain ⟨g173, h174⟩ := qk_el h0; clear h0
  obtain ⟨x175, S176, e177, h178⟩ := qc_el h174; clear h174
  refine xv_callV (pc := 73) (st := []) (as := []) (v := (some (.int x175))) (S' := S176) ok_X12_cant (e_X12_cant e177) (isb_el g173) (by decide) rfl (Nat.le_of_ble_eq_true rfl) rfl gw_1324 dX12_readAddresses_73 ?_
  obtain ⟨g179, h180⟩ := qk_el h178; clear h178
  exact ev_ireturn (pc := 76) rfl (zb_nar g179) (qRI_eq h180) dX12_readAddresses_76
theorem e_X12_readAddresses {X : gk_X} {F : Nat} {S : gk_S} {a : Nat} {p0 : Int32} {r : (Int32 × gk_S)} (h0 : f_X12_readAddresses F S a p0 = some r) : EvM X m_X12_readAddresses 8 0 0 [.ref a, .int p0] S (qRI r) := by
  unfold f_X12_readAddresses at h0
  refine ev_method (by decide +kernel) rfl rfl (Nat.le_of_ble_eq_true rfl) ?_
  show EvW X m_X12_readAddresses 8 0 0 0 [some (.ref a), some (.int p0), none, none] [] S _
  refine ev_aload_n (pc := 0) (i := 0) rfl rfl rfl dX12_readAddresses_0 ?_
  obtain ⟨g1, h2⟩ := qk_el h0; clear h0
  obtain ⟨x3, e4, h5⟩ := qv_el h2; clear h2
  refine xv_getIv (pc := 1) fn_914 (isb_el g1) e4 gw_1154 dX12_readAddresses_1 ?_
  refine ev_iconst (pc := 4) (v := 3) (by decide) dX12_readAddresses_4 ?_
  refine ev_ic_ne (pc := 5) (tgt := 15) (by decide) dX12_readAddresses_5 (fun c6 => ?_) (fun c6 => ?_)
  · replace h5 := qi_f h5 c6
    exact ev_weak (qL_s (qL_n (qL_n (qL_n qL_nil)))) (e_X12_readAddresses_15 h5)
  · replace h5 := qi_t h5 c6
    refine ev_aload_n (pc := 8) (i := 0) rfl rfl rfl dX12_readAddresses_8 ?_
    obtain ⟨x16, S17, e18, h19⟩ := qc_el h5; clear h5
    refine xv_callV (pc := 9) (st := []) (as := []) (v := (some (.int x16))) (S' := S17) ok_X12_isLate (e_X12_isLate e18) (isb_el g1) (by decide) rfl (Nat.le_of_ble_eq_true rfl) rfl gw_1316 dX12_readAddresses_9 ?_
    refine ev_if_eq (pc := 12) (tgt := 20) (by decide) dX12_readAddresses_12 (fun c20 => ?_) (fun c20 => ?_)
    · replace h19 := qi_t h19 c20
      refine ev_aload_n (pc := 20) (i := 0) rfl rfl rfl dX12_readAddresses_20 ?_
      obtain ⟨g22, h23⟩ := qk_el h19; clear h19
      obtain ⟨b24, e25, h26⟩ := qP_el h23; clear h23
      refine xv_getP (pc := 21) fn_909 (isb_el g22) e25 gw_1149 dX12_readAddresses_21 ?_
      refine ev_iload_n (pc := 24) (i := 1) rfl rfl dX12_readAddresses_24 ?_
      refine ev_aload_n (pc := 25) (i := 0) rfl rfl rfl dX12_readAddresses_25 ?_
      obtain ⟨x27, e28, h29⟩ := qv_el h26; clear h26
      refine xv_getJv (pc := 26) fn_917 (isb_el g22) e28 gw_1157 dX12_readAddresses_26 ?_
      obtain ⟨g30, h31⟩ := qk_el h29; clear h29
      obtain ⟨g32, h33⟩ := qk_el h31; clear h31
      obtain ⟨S34, e35, h36⟩ := qv_el h33; clear h33
      refine yv_last (pc := 29) (isb_el g30) (inb_el g32) e35 dX12_readAddresses_29 ?_
      refine ev_aload_n (pc := 30) (i := 0) rfl rfl rfl dX12_readAddresses_30 ?_
      obtain ⟨b37, e38, h39⟩ := qP_el h36; clear h36
      refine xv_getP (pc := 31) fn_910 (is_wJ (isb_el g22) e35) e38 gw_1150 dX12_readAddresses_31 ?_
      refine ev_iload_n (pc := 34) (i := 1) rfl rfl dX12_readAddresses_34 ?_
      refine ev_aload_n (pc := 35) (i := 0) rfl rfl rfl dX12_readAddresses_35 ?_
      obtain ⟨x40, e41, h42⟩ := qv_el h39; clear h39
      refine xv_getJv (pc := 36) fn_917 (is_wJ (isb_el g22) e35) e41 gw_1157 dX12_readAddresses_36 ?_
      obtain ⟨g43, h44⟩ := qk_el h42; clear h42
      obtain ⟨g45, h46⟩ := qk_el h44; clear h44
      obtain ⟨S47, e48, h49⟩ := qv_el h46; clear h46
      refine yv_last (pc := 39) (isb_el g43) (inb_el g45) e48 dX12_readAddresses_39 ?_
      refine ev_aload_n (pc := 40) (i := 0) rfl rfl rfl dX12_readAddresses_40 ?_
      obtain ⟨x50, S51, e52, h53⟩ := qc_el h49; clear h49
      refine xv_callV (pc := 41) (st := []) (as := []) (v := none) (S' := S51) ok_X12_next (e_X12_next e52) (is_wJ (is_wJ (isb_el g22) e35) e48) (by decide) rfl (Nat.le_of_ble_eq_true rfl) rfl gw_1276 dX12_readAddresses_41 ?_
      refine ev_aload_n (pc := 44) (i := 0) rfl rfl rfl dX12_readAddresses_44 ?_
      refine ev_bipush (pc := 45) (v := 45) (by decide) dX12_readAddresses_45 ?_
      obtain ⟨g54, h55⟩ := qk_el h53; clear h53
      obtain ⟨x56, S57, e58, h59⟩ := qc_el h55; clear h55
      refine xv_callV (pc := 47) (st := []) (as := [.int 45]) (v := (some (.int x56))) (S' := S57) ok_X12_isSign (e_X12_isSign e58) (isb_el g54) (by decide) rfl (Nat.le_of_ble_eq_true rfl) rfl gw_1336 dX12_readAddresses_47 ?_
      refine ev_if_eq (pc := 50) (tgt := 113) (by decide) dX12_readAddresses_50 (fun c60 => ?_) (fun c60 => ?_)
      · replace h59 := qi_t h59 c60
        refine ev_aload_n (pc := 113) (i := 0) rfl rfl rfl dX12_readAddresses_113 ?_
        refine ev_bipush (pc := 114) (v := 47) (by decide) dX12_readAddresses_114 ?_
        obtain ⟨g62, h63⟩ := qk_el h59; clear h59
        obtain ⟨x64, S65, e66, h67⟩ := qc_el h63; clear h63
        refine xv_callV (pc := 116) (st := []) (as := [.int 47]) (v := (some (.int x64))) (S' := S65) ok_X12_isSign (e_X12_isSign e66) (isb_el g62) (by decide) rfl (Nat.le_of_ble_eq_true rfl) rfl gw_1336 dX12_readAddresses_116 ?_
        refine ev_if_ne (pc := 119) (tgt := 124) (by decide) dX12_readAddresses_119 (fun c68 => ?_) (fun c68 => ?_)
        · replace h67 := qi_f h67 c68
          refine ev_aload_n (pc := 124) (i := 0) rfl rfl rfl dX12_readAddresses_124 ?_
          obtain ⟨g70, h71⟩ := qk_el h67; clear h67
          obtain ⟨x72, S73, e74, h75⟩ := qc_el h71; clear h71
          refine xv_callV (pc := 125) (st := []) (as := []) (v := none) (S' := S73) ok_X12_next (e_X12_next e74) (isb_el g70) (by decide) rfl (Nat.le_of_ble_eq_true rfl) rfl gw_1276 dX12_readAddresses_125 ?_
          refine ev_aload_n (pc := 128) (i := 0) rfl rfl rfl dX12_readAddresses_128 ?_
          obtain ⟨g76, h77⟩ := qk_el h75; clear h75
          obtain ⟨x78, e79, h80⟩ := qv_el h77; clear h77
          refine xv_getIv (pc := 129) fn_914 (isb_el g76) e79 gw_1154 dX12_readAddresses_129 ?_
          refine ev_iconst (pc := 132) (v := 2) (by decide) dX12_readAddresses_132 ?_
          refine ev_ic_ne (pc := 133) (tgt := 143) (by decide) dX12_readAddresses_133 (fun c81 => ?_) (fun c81 => ?_)
          · replace h80 := qi_f h80 c81
            exact ev_weak (qL_s (qL_n (qL_n (qL_n qL_nil)))) (e_X12_readAddresses_143 h80)
          · replace h80 := qi_t h80 c81
            refine ev_aload_n (pc := 136) (i := 0) rfl rfl rfl dX12_readAddresses_136 ?_
            obtain ⟨x91, S92, e93, h94⟩ := qc_el h80; clear h80
            refine xv_callV (pc := 137) (st := []) (as := []) (v := (some (.int x91))) (S' := S92) ok_X12_isLate (e_X12_isLate e93) (isb_el g76) (by decide) rfl (Nat.le_of_ble_eq_true rfl) rfl gw_1316 dX12_readAddresses_137 ?_
            refine ev_if_eq (pc := 140) (tgt := 148) (by decide) dX12_readAddresses_140 (fun c95 => ?_) (fun c95 => ?_)
            · replace h94 := qi_t h94 c95
              refine ev_aload_n (pc := 148) (i := 0) rfl rfl rfl dX12_readAddresses_148 ?_
              obtain ⟨g97, h98⟩ := qk_el h94; clear h94
              obtain ⟨x99, e100, h101⟩ := qv_el h98; clear h98
              refine xv_getJv (pc := 149) fn_917 (isb_el g97) e100 gw_1157 dX12_readAddresses_149 ?_
              refine ev_ldc2 (pc := 152) (v := 32) gw_1359 dX12_readAddresses_152 ?_
              refine ev_lcmp (pc := 155)  dX12_readAddresses_155 ?_
              refine ev_if_le (pc := 156) (tgt := 165) (by decide) dX12_readAddresses_156 (fun c102 => ?_) (fun c102 => ?_)
              · replace h101 := qi_t h101 (lc_le c102)
                refine ev_ldc2 (pc := 165) (v := 4294967295) gw_1349 dX12_readAddresses_165 ?_
                refine ev_aload_n (pc := 168) (i := 0) rfl rfl rfl dX12_readAddresses_168 ?_
                obtain ⟨x104, e105, h106⟩ := qv_el h101; clear h101
                refine xv_getJv (pc := 169) fn_917 (isb_el g97) e105 gw_1157 dX12_readAddresses_169 ?_
                refine ev_l2i (pc := 172)  dX12_readAddresses_172 ?_
                refine ev_lshr (pc := 173)  dX12_readAddresses_173 ?_
                obtain ⟨x107, e108, h109⟩ := qv_el h106; clear h106
                refine xv_topl e108 ?_
                refine ev_lstore_n (pc := 174) (L' := [some (.ref a), some (.int p0), some (.long x107), none]) (i := 2) rfl (by decide) rfl rfl dX12_readAddresses_174 ?_
                refine ev_aload_n (pc := 175) (i := 0) rfl rfl rfl dX12_readAddresses_175 ?_
                obtain ⟨b110, e111, h112⟩ := qP_el h109; clear h109
                refine xv_getP (pc := 176) fn_909 (isb_el g97) e111 gw_1149 dX12_readAddresses_176 ?_
                refine ev_iload_n (pc := 179) (i := 1) rfl rfl dX12_readAddresses_179 ?_
                refine ev_aload_n (pc := 180) (i := 0) rfl rfl rfl dX12_readAddresses_180 ?_
                obtain ⟨b113, e114, h115⟩ := qP_el h112; clear h112
                refine xv_getP (pc := 181) fn_909 (isb_el g97) e114 gw_1149 dX12_readAddresses_181 ?_
                refine ev_iload_n (pc := 184) (i := 1) rfl rfl dX12_readAddresses_184 ?_
                obtain ⟨g116, h117⟩ := qk_el h115; clear h115
                obtain ⟨g118, h119⟩ := qk_el h117; clear h117
                obtain ⟨x120, e121, h122⟩ := qv_el h119; clear h119
                refine yv_lald (pc := 185) (isb_el g116) (inb_el g118) e121 dX12_readAddresses_185 ?_
                refine ev_lload_n (pc := 186) (i := 2) rfl rfl dX12_readAddresses_186 ?_
                refine ev_ldc2 (pc := 187) (v := -1) gw_1360 dX12_readAddresses_187 ?_
                refine ev_lxor (pc := 190)  dX12_readAddresses_190 ?_
                refine ev_land (pc := 191)  dX12_readAddresses_191 ?_
                obtain ⟨g123, h124⟩ := qk_el h122; clear h122
                obtain ⟨g125, h126⟩ := qk_el h124; clear h124
                obtain ⟨S127, e128, h129⟩ := qv_el h126; clear h126
                refine yv_last (pc := 192) (isb_el g123) (inb_el g125) e128 dX12_readAddresses_192 ?_
                refine ev_aload_n (pc := 193) (i := 0) rfl rfl rfl dX12_readAddresses_193 ?_
                obtain ⟨b130, e131, h132⟩ := qP_el h129; clear h129
                refine xv_getP (pc := 194) fn_910 (is_wJ (isb_el g97) e128) e131 gw_1150 dX12_readAddresses_194 ?_
                refine ev_iload_n (pc := 197) (i := 1) rfl rfl dX12_readAddresses_197 ?_
                refine ev_aload_n (pc := 198) (i := 0) rfl rfl rfl dX12_readAddresses_198 ?_
                obtain ⟨b133, e134, h135⟩ := qP_el h132; clear h132
                refine xv_getP (pc := 199) fn_909 (is_wJ (isb_el g97) e128) e134 gw_1149 dX12_readAddresses_199 ?_
                refine ev_iload_n (pc := 202) (i := 1) rfl rfl dX12_readAddresses_202 ?_
                obtain ⟨g136, h137⟩ := qk_el h135; clear h135
                obtain ⟨g138, h139⟩ := qk_el h137; clear h137
                obtain ⟨x140, e141, h142⟩ := qv_el h139; clear h139
                refine yv_lald (pc := 203) (isb_el g136) (inb_el g138) e141 dX12_readAddresses_203 ?_
                refine ev_lload_n (pc := 204) (i := 2) rfl rfl dX12_readAddresses_204 ?_
                refine ev_lor (pc := 205)  dX12_readAddresses_205 ?_
                obtain ⟨g143, h144⟩ := qk_el h142; clear h142
                obtain ⟨g145, h146⟩ := qk_el h144; clear h144
                obtain ⟨S147, e148, h149⟩ := qv_el h146; clear h146
                refine yv_last (pc := 206) (isb_el g143) (inb_el g145) e148 dX12_readAddresses_206 ?_
                refine ev_aload_n (pc := 207) (i := 0) rfl rfl rfl dX12_readAddresses_207 ?_
                obtain ⟨x150, S151, e152, h153⟩ := qc_el h149; clear h149
                refine xv_callV (pc := 208) (st := []) (as := []) (v := none) (S' := S151) ok_X12_next (e_X12_next e152) (is_wJ (is_wJ (isb_el g97) e128) e148) (by decide) rfl (Nat.le_of_ble_eq_true rfl) rfl gw_1276 dX12_readAddresses_208 ?_
                refine ev_iconst (pc := 211) (v := 1) (by decide) dX12_readAddresses_211 ?_
                exact ev_ireturn (pc := 212) rfl rfl (qRI_eq h153) dX12_readAddresses_212
              · replace h101 := qi_f h101 (lc_leN c102)
                refine ev_aload_n (pc := 159) (i := 0) rfl rfl rfl dX12_readAddresses_159 ?_
                refine ev_iconst (pc := 160) (v := 3) (by decide) dX12_readAddresses_160 ?_
                obtain ⟨x154, S155, e156, h157⟩ := qc_el h101; clear h101
                refine xv_callV (pc := 161) (st := []) (as := [.int 3]) (v := (some (.int x154))) (S' := S155) ok_X12_wrong (e_X12_wrong e156) (isb_el g97) (by decide) rfl (Nat.le_of_ble_eq_true rfl) rfl gw_1328 dX12_readAddresses_161 ?_
                obtain ⟨g158, h159⟩ := qk_el h157; clear h157
                exact ev_ireturn (pc := 164) rfl (zb_nar g158) (qRI_eq h159) dX12_readAddresses_164
            · replace h94 := qi_f h94 c95
              exact ev_weak (qL_s (qL_n (qL_n (qL_n qL_nil)))) (e_X12_readAddresses_143 h94)
        · replace h67 := qi_t h67 c68
          refine ev_iconst (pc := 122) (v := 1) (by decide) dX12_readAddresses_122 ?_
          exact ev_ireturn (pc := 123) rfl rfl (qRI_eq h67) dX12_readAddresses_123
      · replace h59 := qi_f h59 c60
        refine ev_aload_n (pc := 53) (i := 0) rfl rfl rfl dX12_readAddresses_53 ?_
        obtain ⟨g160, h161⟩ := qk_el h59; clear h59
        obtain ⟨x162, S163, e164, h165⟩ := qc_el h161; clear h161
        refine xv_callV (pc := 54) (st := []) (as := []) (v := none) (S' := S163) ok_X12_next (e_X12_next e164) (isb_el g160) (by decide) rfl (Nat.le_of_ble_eq_true rfl) rfl gw_1276 dX12_readAddresses_54 ?_
        refine ev_aload_n (pc := 57) (i := 0) rfl rfl rfl dX12_readAddresses_57 ?_
        obtain ⟨g166, h167⟩ := qk_el h165; clear h165
        obtain ⟨x168, e169, h170⟩ := qv_el h167; clear h167
        refine xv_getIv (pc := 58) fn_914 (isb_el g166) e169 gw_1154 dX12_readAddresses_58 ?_
        refine ev_iconst (pc := 61) (v := 3) (by decide) dX12_readAddresses_61 ?_
        refine ev_ic_ne (pc := 62) (tgt := 72) (by decide) dX12_readAddresses_62 (fun c171 => ?_) (fun c171 => ?_)
        · replace h170 := qi_f h170 c171
          exact ev_weak (qL_s (qL_n (qL_n (qL_n qL_nil)))) (e_X12_readAddresses_72 h170)
        · replace h170 := qi_t h170 c171
          refine ev_aload_n (pc := 65) (i := 0) rfl rfl rfl dX12_readAddresses_65 ?_
          obtain ⟨x181, S182, e183, h184⟩ := qc_el h170; clear h170
          refine xv_callV (pc := 66) (st := []) (as := []) (v := (some (.int x181))) (S' := S182) ok_X12_isLate (e_X12_isLate e183) (isb_el g166) (by decide) rfl (Nat.le_of_ble_eq_true rfl) rfl gw_1316 dX12_readAddresses_66 ?_
          refine ev_if_eq (pc := 69) (tgt := 77) (by decide) dX12_readAddresses_69 (fun c185 => ?_) (fun c185 => ?_)
          · replace h184 := qi_t h184 c185
            refine ev_aload_n (pc := 77) (i := 0) rfl rfl rfl dX12_readAddresses_77 ?_
            obtain ⟨g187, h188⟩ := qk_el h184; clear h184
            obtain ⟨x189, e190, h191⟩ := qv_el h188; clear h188
            refine xv_getJv (pc := 78) fn_917 (isb_el g187) e190 gw_1157 dX12_readAddresses_78 ?_
            refine ev_aload_n (pc := 81) (i := 0) rfl rfl rfl dX12_readAddresses_81 ?_
            obtain ⟨b192, e193, h194⟩ := qP_el h191; clear h191
            refine xv_getP (pc := 82) fn_909 (isb_el g187) e193 gw_1149 dX12_readAddresses_82 ?_
            refine ev_iload_n (pc := 85) (i := 1) rfl rfl dX12_readAddresses_85 ?_
            obtain ⟨g195, h196⟩ := qk_el h194; clear h194
            obtain ⟨g197, h198⟩ := qk_el h196; clear h196
            obtain ⟨x199, e200, h201⟩ := qv_el h198; clear h198
            refine yv_lald (pc := 86) (isb_el g195) (inb_el g197) e200 dX12_readAddresses_86 ?_
            refine ev_lcmp (pc := 87)  dX12_readAddresses_87 ?_
            refine ev_if_ge (pc := 88) (tgt := 97) (by decide) dX12_readAddresses_88 (fun c202 => ?_) (fun c202 => ?_)
            · replace h201 := qi_t h201 (lc_ge c202)
              refine ev_aload_n (pc := 97) (i := 0) rfl rfl rfl dX12_readAddresses_97 ?_
              obtain ⟨b204, e205, h206⟩ := qP_el h201; clear h201
              refine xv_getP (pc := 98) fn_910 (isb_el g187) e205 gw_1150 dX12_readAddresses_98 ?_
              refine ev_iload_n (pc := 101) (i := 1) rfl rfl dX12_readAddresses_101 ?_
              refine ev_aload_n (pc := 102) (i := 0) rfl rfl rfl dX12_readAddresses_102 ?_
              obtain ⟨x207, e208, h209⟩ := qv_el h206; clear h206
              refine xv_getJv (pc := 103) fn_917 (isb_el g187) e208 gw_1157 dX12_readAddresses_103 ?_
              obtain ⟨g210, h211⟩ := qk_el h209; clear h209
              obtain ⟨g212, h213⟩ := qk_el h211; clear h211
              obtain ⟨S214, e215, h216⟩ := qv_el h213; clear h213
              refine yv_last (pc := 106) (isb_el g210) (inb_el g212) e215 dX12_readAddresses_106 ?_
              refine ev_aload_n (pc := 107) (i := 0) rfl rfl rfl dX12_readAddresses_107 ?_
              obtain ⟨x217, S218, e219, h220⟩ := qc_el h216; clear h216
              refine xv_callV (pc := 108) (st := []) (as := []) (v := none) (S' := S218) ok_X12_next (e_X12_next e219) (is_wJ (isb_el g187) e215) (by decide) rfl (Nat.le_of_ble_eq_true rfl) rfl gw_1276 dX12_readAddresses_108 ?_
              refine ev_iconst (pc := 111) (v := 1) (by decide) dX12_readAddresses_111 ?_
              exact ev_ireturn (pc := 112) rfl rfl (qRI_eq h220) dX12_readAddresses_112
            · replace h201 := qi_f h201 (lc_geN c202)
              refine ev_aload_n (pc := 91) (i := 0) rfl rfl rfl dX12_readAddresses_91 ?_
              refine ev_iconst (pc := 92) (v := 3) (by decide) dX12_readAddresses_92 ?_
              obtain ⟨x221, S222, e223, h224⟩ := qc_el h201; clear h201
              refine xv_callV (pc := 93) (st := []) (as := [.int 3]) (v := (some (.int x221))) (S' := S222) ok_X12_wrong (e_X12_wrong e223) (isb_el g187) (by decide) rfl (Nat.le_of_ble_eq_true rfl) rfl gw_1328 dX12_readAddresses_93 ?_
              obtain ⟨g225, h226⟩ := qk_el h224; clear h224
              exact ev_ireturn (pc := 96) rfl (zb_nar g225) (qRI_eq h226) dX12_readAddresses_96
          · replace h184 := qi_f h184 c185
            exact ev_weak (qL_s (qL_n (qL_n (qL_n qL_nil)))) (e_X12_readAddresses_72 h184)
    · replace h19 := qi_f h19 c20
      exact ev_weak (qL_s (qL_n (qL_n (qL_n qL_nil)))) (e_X12_readAddresses_15 h19)
