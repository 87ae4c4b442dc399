theorem dX7_reaches_0 : decode cX7_reaches 0 = .ok (.aload_n 0, 1) := by decide +kernel
theorem dX7_reaches_1 : decode cX7_reaches 1 = .ok (.aload_n 1, 1) := by decide +kernel
theorem dX7_reaches_2 : decode cX7_reaches 2 = .ok (.iload_n 2, 1) := by decide +kernel
theorem dX7_reaches_3 : decode cX7_reaches 3 = .ok (.iconst 1, 1) := by decide +kernel
theorem dX7_reaches_4 : decode cX7_reaches 4 = .ok (.iadd, 1) := by decide +kernel
theorem dX7_reaches_5 : decode cX7_reaches 5 = .ok (.aload_n 1, 1) := by decide +kernel
theorem dX7_reaches_6 : decode cX7_reaches 6 = .ok (.iconst 0, 1) := by decide +kernel
theorem dX7_reaches_7 : decode cX7_reaches 7 = .ok (.invokevirtual 51, 3) := by decide +kernel
theorem dX7_reaches_10 : decode cX7_reaches 10 = .ok (.aload_n 0, 1) := by decide +kernel
theorem dX7_reaches_11 : decode cX7_reaches 11 = .ok (.getfield 32, 3) := by decide +kernel
theorem dX7_reaches_14 : decode cX7_reaches 14 = .ok (.iconst 0, 1) := by decide +kernel
theorem dX7_reaches_15 : decode cX7_reaches 15 = .ok (.iload_n 2, 1) := by decide +kernel
theorem dX7_reaches_16 : decode cX7_reaches 16 = .ok (.invokestatic 55, 3) := by decide +kernel
theorem dX7_reaches_19 : decode cX7_reaches 19 = .ok (.iastore, 1) := by decide +kernel
theorem dX7_reaches_20 : decode cX7_reaches 20 = .ok (.aload_n 0, 1) := by decide +kernel
theorem dX7_reaches_21 : decode cX7_reaches 21 = .ok (.getfield 32, 3) := by decide +kernel
theorem dX7_reaches_24 : decode cX7_reaches 24 = .ok (.iconst 1, 1) := by decide +kernel
theorem dX7_reaches_25 : decode cX7_reaches 25 = .ok (.iconst 1, 1) := by decide +kernel
theorem dX7_reaches_26 : decode cX7_reaches 26 = .ok (.iload_n 2, 1) := by decide +kernel
theorem dX7_reaches_27 : decode cX7_reaches 27 = .ok (.ishl, 1) := by decide +kernel
theorem dX7_reaches_28 : decode cX7_reaches 28 = .ok (.iastore, 1) := by decide +kernel
theorem dX7_reaches_29 : decode cX7_reaches 29 = .ok (.aload_n 0, 1) := by decide +kernel
theorem dX7_reaches_30 : decode cX7_reaches 30 = .ok (.getfield 32, 3) := by decide +kernel
theorem dX7_reaches_33 : decode cX7_reaches 33 = .ok (.iconst 2, 1) := by decide +kernel
theorem dX7_reaches_34 : decode cX7_reaches 34 = .ok (.iconst 0, 1) := by decide +kernel
theorem dX7_reaches_35 : decode cX7_reaches 35 = .ok (.iastore, 1) := by decide +kernel
theorem dX7_reaches_36 : decode cX7_reaches 36 = .ok (.aload_n 0, 1) := by decide +kernel
theorem dX7_reaches_37 : decode cX7_reaches 37 = .ok (.iload_n 2, 1) := by decide +kernel
theorem dX7_reaches_38 : decode cX7_reaches 38 = .ok (.iconst 1, 1) := by decide +kernel
theorem dX7_reaches_39 : decode cX7_reaches 39 = .ok (.iadd, 1) := by decide +kernel
theorem dX7_reaches_40 : decode cX7_reaches 40 = .ok (.invokestatic 55, 3) := by decide +kernel
theorem dX7_reaches_43 : decode cX7_reaches 43 = .ok (.iconst 0, 1) := by decide +kernel
theorem dX7_reaches_44 : decode cX7_reaches 44 = .ok (.invokestatic 62, 3) := by decide +kernel
theorem dX7_reaches_47 : decode cX7_reaches 47 = .ok (.iconst 0, 1) := by decide +kernel
theorem dX7_reaches_48 : decode cX7_reaches 48 = .ok (.iconst 0, 1) := by decide +kernel
theorem dX7_reaches_49 : decode cX7_reaches 49 = .ok (.invokestatic 62, 3) := by decide +kernel
theorem dX7_reaches_52 : decode cX7_reaches 52 = .ok (.invokevirtual 66, 3) := by decide +kernel
theorem dX7_reaches_55 : decode cX7_reaches 55 = .ok (.ireturn, 1) := by decide +kernel
theorem e_X7_reaches {X : gk_X} {F : Nat} {S : gk_S} {a : Nat} {p0 : Nat} {p1 : Int32} {r : (Int32 × gk_S)} (h0 : f_X7_reaches F S a p0 p1 = some r) : EvM X m_X7_reaches 47 0 0 [.ref a, .ref p0, .int p1] S (qRI r) := by
  unfold f_X7_reaches at h0
  refine ev_method (by decide +kernel) rfl rfl (Nat.le_of_ble_eq_true rfl) ?_
  show EvW X m_X7_reaches 47 0 0 0 [some (.ref a), some (.ref p0), some (.int p1)] [] S _
  refine ev_aload_n (pc := 0) (i := 0) rfl rfl rfl dX7_reaches_0 ?_
  refine ev_aload_n (pc := 1) (i := 1) rfl rfl rfl dX7_reaches_1 ?_
  refine ev_iload_n (pc := 2) (i := 2) rfl rfl dX7_reaches_2 ?_
  refine ev_iconst (pc := 3) (v := 1) (by decide) dX7_reaches_3 ?_
  refine ev_iadd (pc := 4)  dX7_reaches_4 ?_
  refine ev_aload_n (pc := 5) (i := 1) rfl rfl rfl dX7_reaches_5 ?_
  refine ev_iconst (pc := 6) (v := 0) (by decide) dX7_reaches_6 ?_
  obtain ⟨g1, h2⟩ := qk_el h0; clear h0
  obtain ⟨x3, S4, e5, h6⟩ := qc_el h2; clear h2
  refine xv_callV (pc := 7) (st := []) (as := [.ref p0, .int (p1 + 1), .ref p0, .int 0]) (v := none) (S' := S4) ok_X7_prepare (e_X7_prepare e5) (isb_el g1) (by decide) rfl (Nat.le_of_ble_eq_true rfl) rfl gw_820 dX7_reaches_7 ?_
  refine ev_aload_n (pc := 10) (i := 0) rfl rfl rfl dX7_reaches_10 ?_
  obtain ⟨g7, h8⟩ := qk_el h6; clear h6
  obtain ⟨b9, e10, h11⟩ := qP_el h8; clear h8
  refine xv_getP (pc := 11) fn_505 (isb_el g7) e10 gw_170 dX7_reaches_11 ?_
  refine ev_iconst (pc := 14) (v := 0) (by decide) dX7_reaches_14 ?_
  refine ev_iload_n (pc := 15) (i := 2) rfl rfl dX7_reaches_15 ?_
  obtain ⟨x12, S13, e14, h15⟩ := qc_el h11; clear h11
  refine xv_callS (pc := 16) (st := [.int 0, .ref b9]) (as := [.int p1]) (v := (some (.int x12))) (S' := S13) ok_X7_bitsBelow (e_X7_bitsBelow e14) (by decide) rfl (Nat.le_of_ble_eq_true rfl) rfl gw_852 dX7_reaches_16 ?_
  obtain ⟨g16, h17⟩ := qk_el h15; clear h15
  obtain ⟨g18, h19⟩ := qk_el h17; clear h17
  obtain ⟨S20, e21, h22⟩ := qv_el h19; clear h19
  refine yv_iast (pc := 19) (isb_el g16) (inb_el g18) e21 dX7_reaches_19 ?_
  refine ev_aload_n (pc := 20) (i := 0) rfl rfl rfl dX7_reaches_20 ?_
  obtain ⟨g23, h24⟩ := qk_el h22; clear h22
  obtain ⟨b25, e26, h27⟩ := qP_el h24; clear h24
  refine xv_getP (pc := 21) fn_505 (isb_el g23) e26 gw_170 dX7_reaches_21 ?_
  refine ev_iconst (pc := 24) (v := 1) (by decide) dX7_reaches_24 ?_
  refine ev_iconst (pc := 25) (v := 1) (by decide) dX7_reaches_25 ?_
  refine ev_iload_n (pc := 26) (i := 2) rfl rfl dX7_reaches_26 ?_
  refine ev_ishl (pc := 27)  dX7_reaches_27 ?_
  obtain ⟨g28, h29⟩ := qk_el h27; clear h27
  obtain ⟨g30, h31⟩ := qk_el h29; clear h29
  obtain ⟨S32, e33, h34⟩ := qv_el h31; clear h31
  refine yv_iast (pc := 28) (isb_el g28) (inb_el g30) e33 dX7_reaches_28 ?_
  refine ev_aload_n (pc := 29) (i := 0) rfl rfl rfl dX7_reaches_29 ?_
  obtain ⟨b35, e36, h37⟩ := qP_el h34; clear h34
  refine xv_getP (pc := 30) fn_505 (is_wI (isb_el g23) e33) e36 gw_170 dX7_reaches_30 ?_
  refine ev_iconst (pc := 33) (v := 2) (by decide) dX7_reaches_33 ?_
  refine ev_iconst (pc := 34) (v := 0) (by decide) dX7_reaches_34 ?_
  obtain ⟨g38, h39⟩ := qk_el h37; clear h37
  obtain ⟨g40, h41⟩ := qk_el h39; clear h39
  obtain ⟨S42, e43, h44⟩ := qv_el h41; clear h41
  refine yv_iast (pc := 35) (isb_el g38) (inb_el g40) e43 dX7_reaches_35 ?_
  refine ev_aload_n (pc := 36) (i := 0) rfl rfl rfl dX7_reaches_36 ?_
  refine ev_iload_n (pc := 37) (i := 2) rfl rfl dX7_reaches_37 ?_
  refine ev_iconst (pc := 38) (v := 1) (by decide) dX7_reaches_38 ?_
  refine ev_iadd (pc := 39)  dX7_reaches_39 ?_
  obtain ⟨x45, S46, e47, h48⟩ := qc_el h44; clear h44
  refine xv_callS (pc := 40) (st := [.ref a]) (as := [.int (p1 + 1)]) (v := (some (.int x45))) (S' := S46) ok_X7_bitsBelow (e_X7_bitsBelow e47) (by decide) rfl (Nat.le_of_ble_eq_true rfl) rfl gw_852 dX7_reaches_40 ?_
  refine ev_iconst (pc := 43) (v := 0) (by decide) dX7_reaches_43 ?_
  obtain ⟨x49, S50, e51, h52⟩ := qc_el h48; clear h48
  refine xv_callS (pc := 44) (st := [.ref a]) (as := [.int x45, .int 0]) (v := (some (.int x49))) (S' := S50) ok_X7_side (e_X7_side e51) (by decide) rfl (Nat.le_of_ble_eq_true rfl) rfl gw_855 dX7_reaches_44 ?_
  refine ev_iconst (pc := 47) (v := 0) (by decide) dX7_reaches_47 ?_
  refine ev_iconst (pc := 48) (v := 0) (by decide) dX7_reaches_48 ?_
  obtain ⟨x53, S54, e55, h56⟩ := qc_el h52; clear h52
  refine xv_callS (pc := 49) (st := [.int x49, .ref a]) (as := [.int 0, .int 0]) (v := (some (.int x53))) (S' := S54) ok_X7_side (e_X7_side e55) (by decide) rfl (Nat.le_of_ble_eq_true rfl) rfl gw_855 dX7_reaches_49 ?_
  obtain ⟨g57, h58⟩ := qk_el h56; clear h56
  obtain ⟨x59, S60, e61, h62⟩ := qc_el h58; clear h58
  refine xv_callV (pc := 52) (st := []) (as := [.int x49, .int x53]) (v := (some (.int x59))) (S' := S60) ok_X7_differ (e_X7_differ e61) (isb_el g57) (by decide) rfl (Nat.le_of_ble_eq_true rfl) rfl gw_858 dX7_reaches_52 ?_
  obtain ⟨g63, h64⟩ := qk_el h62; clear h62
  exact ev_ireturn (pc := 55) rfl (zb_nar g63) (qRI_eq h64) dX7_reaches_55
theorem dX11_shadowed_0 : decode cX11_shadowed 0 = .ok (.iload_n 1, 1) := by decide +kernel
theorem dX11_shadowed_1 : decode cX11_shadowed 1 = .ok (.invokestatic 89, 3) := by decide +kernel
theorem dX11_shadowed_4 : decode cX11_shadowed 4 = .ok (.aload_n 0, 1) := by decide +kernel
theorem dX11_shadowed_5 : decode cX11_shadowed 5 = .ok (.getfield 23, 3) := by decide +kernel
theorem dX11_shadowed_8 : decode cX11_shadowed 8 = .ok (.iload_n 1, 1) := by decide +kernel
theorem dX11_shadowed_9 : decode cX11_shadowed 9 = .ok (.aaload, 1) := by decide +kernel
theorem dX11_shadowed_10 : decode cX11_shadowed 10 = .ok (.iload_n 2, 1) := by decide +kernel
theorem dX11_shadowed_11 : decode cX11_shadowed 11 = .ok (.invokestatic 108, 3) := by decide +kernel
theorem dX11_shadowed_14 : decode cX11_shadowed 14 = .ok (.aload_n 0, 1) := by decide +kernel
theorem dX11_shadowed_15 : decode cX11_shadowed 15 = .ok (.getfield 44, 3) := by decide +kernel
theorem dX11_shadowed_18 : decode cX11_shadowed 18 = .ok (.aload_n 0, 1) := by decide +kernel
theorem dX11_shadowed_19 : decode cX11_shadowed 19 = .ok (.getfield 23, 3) := by decide +kernel
theorem dX11_shadowed_22 : decode cX11_shadowed 22 = .ok (.iload_n 1, 1) := by decide +kernel
theorem dX11_shadowed_23 : decode cX11_shadowed 23 = .ok (.aaload, 1) := by decide +kernel
theorem dX11_shadowed_24 : decode cX11_shadowed 24 = .ok (.iload_n 2, 1) := by decide +kernel
theorem dX11_shadowed_25 : decode cX11_shadowed 25 = .ok (.invokevirtual 156, 3) := by decide +kernel
theorem dX11_shadowed_28 : decode cX11_shadowed 28 = .ok (.ifCond .ne 5, 3) := by decide +kernel
theorem dX11_shadowed_31 : decode cX11_shadowed 31 = .ok (.iconst 1, 1) := by decide +kernel
theorem dX11_shadowed_32 : decode cX11_shadowed 32 = .ok (.ireturn, 1) := by decide +kernel
theorem dX11_shadowed_33 : decode cX11_shadowed 33 = .ok (.aload_n 0, 1) := by decide +kernel
theorem dX11_shadowed_34 : decode cX11_shadowed 34 = .ok (.invokevirtual 160, 3) := by decide +kernel
theorem dX11_shadowed_37 : decode cX11_shadowed 37 = .ok (.iconst 0, 1) := by decide +kernel
theorem dX11_shadowed_38 : decode cX11_shadowed 38 = .ok (.ireturn, 1) := by decide +kernel
theorem e_X11_shadowed {X : gk_X} {F : Nat} {k j : Nat} {S : gk_S} {a : Nat} {p0 : Int32} {p1 : Int32} {r : ((Int32 ⊕ String) × gk_S)} (hb : qb r k j) (h0 : f_X11_shadowed F S a p0 p1 = some r) : EvM X m_X11_shadowed 48 k j [.ref a, .int p0, .int p1] S (qXI r) := by
  unfold f_X11_shadowed at h0
  refine ev_method (by decide +kernel) rfl rfl (Nat.le_of_ble_eq_true rfl) ?_
  show EvW X m_X11_shadowed 48 k j 0 [some (.ref a), some (.int p0), some (.int p1)] [] S _
  refine ev_iload_n (pc := 0) (i := 1) rfl rfl dX11_shadowed_0 ?_
  rcases qx_el h0 with ⟨E5, T6, e3, z1⟩ | ⟨x1, S2, e3, h4⟩
  · subst z1
    exact xv_thrS (pc := 1) (st := []) (as := [.int p0]) ok_X11_checkList (e_X11_checkList (fun _ _ => qb_inr hb) e3) rfl rfl (by decide) (Nat.le_refl _) (Nat.le_refl _) rfl (Nat.le_of_ble_eq_true rfl) rfl gw_386 dX11_shadowed_1
  clear h0
  refine xv_callS (pc := 1) (st := []) (as := [.int p0]) (v := none) (S' := S2) ok_X11_checkList (e_X11_checkList (k := 0) (j := 0) qb_inl e3) (by decide) rfl (Nat.le_of_ble_eq_true rfl) rfl gw_386 dX11_shadowed_1 ?_
  refine ev_aload_n (pc := 4) (i := 0) rfl rfl rfl dX11_shadowed_4 ?_
  obtain ⟨g7, h8⟩ := qk_el h4; clear h4
  obtain ⟨b9, e10, h11⟩ := qP_el h8; clear h8
  refine xv_getP (pc := 5) fn_802 (isb_el g7) e10 gw_284 dX11_shadowed_5 ?_
  refine ev_iload_n (pc := 8) (i := 1) rfl rfl dX11_shadowed_8 ?_
  obtain ⟨g12, h13⟩ := qk_el h11; clear h11
  obtain ⟨g14, h15⟩ := qk_el h13; clear h13
  obtain ⟨b16, e17, h18⟩ := qP_el h15; clear h15
  refine yv_aald (pc := 9) (isb_el g12) (by decide) (inb_el g14) e17 dX11_shadowed_9 ?_
  refine ev_iload_n (pc := 10) (i := 2) rfl rfl dX11_shadowed_10 ?_
  rcases qx_el h18 with ⟨E23, T24, e21, z1⟩ | ⟨x19, S20, e21, h22⟩
  · subst z1
    exact xv_thrS (pc := 11) (st := []) (as := [.ref b16, .int p1]) ok_X11_checkRule (e_X11_checkRule (fun _ _ => qb_inr hb) e21) rfl rfl (by decide) (Nat.le_refl _) (Nat.le_refl _) rfl (Nat.le_of_ble_eq_true rfl) rfl gw_696 dX11_shadowed_11
  clear h18
  refine xv_callS (pc := 11) (st := []) (as := [.ref b16, .int p1]) (v := none) (S' := S20) ok_X11_checkRule (e_X11_checkRule (k := 0) (j := 0) qb_inl e21) (by decide) rfl (Nat.le_of_ble_eq_true rfl) rfl gw_696 dX11_shadowed_11 ?_
  refine ev_aload_n (pc := 14) (i := 0) rfl rfl rfl dX11_shadowed_14 ?_
  obtain ⟨g25, h26⟩ := qk_el h22; clear h22
  obtain ⟨b27, e28, h29⟩ := qP_el h26; clear h26
  refine xv_getP (pc := 15) fn_804 (isb_el g25) e28 gw_286 dX11_shadowed_15 ?_
  refine ev_aload_n (pc := 18) (i := 0) rfl rfl rfl dX11_shadowed_18 ?_
  obtain ⟨b30, e31, h32⟩ := qP_el h29; clear h29
  refine xv_getP (pc := 19) fn_802 (isb_el g25) e31 gw_284 dX11_shadowed_19 ?_
  refine ev_iload_n (pc := 22) (i := 1) rfl rfl dX11_shadowed_22 ?_
  obtain ⟨g33, h34⟩ := qk_el h32; clear h32
  obtain ⟨g35, h36⟩ := qk_el h34; clear h34
  obtain ⟨b37, e38, h39⟩ := qP_el h36; clear h36
  refine yv_aald (pc := 23) (isb_el g33) (by decide) (inb_el g35) e38 dX11_shadowed_23 ?_
  refine ev_iload_n (pc := 24) (i := 2) rfl rfl dX11_shadowed_24 ?_
  obtain ⟨g40, h41⟩ := qk_el h39; clear h39
  obtain ⟨x42, S43, e44, h45⟩ := qc_el h41; clear h41
  refine xv_callV (pc := 25) (st := []) (as := [.ref b37, .int p1]) (v := (some (.int x42))) (S' := S43) ok_X7_reaches (e_X7_reaches e44) (isb_el g40) (by decide) rfl (Nat.le_of_ble_eq_true rfl) rfl gw_816 dX11_shadowed_25 ?_
  refine ev_if_ne (pc := 28) (tgt := 33) (by decide) dX11_shadowed_28 (fun c46 => ?_) (fun c46 => ?_)
  · replace h45 := qi_f h45 c46
    refine ev_aload_n (pc := 33) (i := 0) rfl rfl rfl dX11_shadowed_33 ?_
    obtain ⟨g48, h49⟩ := qk_el h45; clear h45
    obtain ⟨x50, S51, e52, h53⟩ := qc_el h49; clear h49
    refine xv_callV (pc := 34) (st := []) (as := []) (v := none) (S' := S51) ok_X11_keepPoint (e_X11_keepPoint e52) (isb_el g48) (by decide) rfl (Nat.le_of_ble_eq_true rfl) rfl gw_884 dX11_shadowed_34 ?_
    refine ev_iconst (pc := 37) (v := 0) (by decide) dX11_shadowed_37 ?_
    cases h53
    exact ev_ireturn (pc := 38) rfl rfl rfl dX11_shadowed_38
  · replace h45 := qi_t h45 c46
    refine ev_iconst (pc := 31) (v := 1) (by decide) dX11_shadowed_31 ?_
    cases h45
    exact ev_ireturn (pc := 32) rfl rfl rfl dX11_shadowed_32
theorem dL_shadowed_0 : decode cL_shadowed 0 = .ok (.aload_n 3, 1) := by decide +kernel
theorem dL_shadowed_1 : decode cL_shadowed 1 = .ok (.iconst 0, 1) := by decide +kernel
theorem dL_shadowed_2 : decode cL_shadowed 2 = .ok (.aload_n 0, 1) := by decide +kernel
theorem dL_shadowed_3 : decode cL_shadowed 3 = .ok (.iload_n 1, 1) := by decide +kernel
theorem dL_shadowed_4 : decode cL_shadowed 4 = .ok (.iload_n 2, 1) := by decide +kernel
theorem dL_shadowed_5 : decode cL_shadowed 5 = .ok (.invokevirtual 36, 3) := by decide +kernel
theorem dL_shadowed_8 : decode cL_shadowed 8 = .ok (.ifCond .eq 7, 3) := by decide +kernel
theorem dL_shadowed_11 : decode cL_shadowed 11 = .ok (.lconst 1, 1) := by decide +kernel
theorem dL_shadowed_12 : decode cL_shadowed 12 = .ok (.goto 4, 3) := by decide +kernel
theorem dL_shadowed_15 : decode cL_shadowed 15 = .ok (.lconst 0, 1) := by decide +kernel
theorem dL_shadowed_16 : decode cL_shadowed 16 = .ok (.lastore, 1) := by decide +kernel
theorem dL_shadowed_17 : decode cL_shadowed 17 = .ok (.goto 11, 3) := by decide +kernel
theorem dL_shadowed_20 : decode cL_shadowed 20 = .ok (.astore 4, 2) := by decide +kernel
theorem dL_shadowed_22 : decode cL_shadowed 22 = .ok (.iconst 1, 1) := by decide +kernel
theorem dL_shadowed_23 : decode cL_shadowed 23 = .ok (.ireturn, 1) := by decide +kernel
theorem dL_shadowed_24 : decode cL_shadowed 24 = .ok (.astore 4, 2) := by decide +kernel
theorem dL_shadowed_26 : decode cL_shadowed 26 = .ok (.iconst 2, 1) := by decide +kernel
theorem dL_shadowed_27 : decode cL_shadowed 27 = .ok (.ireturn, 1) := by decide +kernel
theorem dL_shadowed_28 : decode cL_shadowed 28 = .ok (.iconst 0, 1) := by decide +kernel
theorem dL_shadowed_29 : decode cL_shadowed 29 = .ok (.ireturn, 1) := by decide +kernel
theorem e_L_shadowed {X : gk_X} {F : Nat} {k j : Nat} {S : gk_S} {p0 : Nat} {p1 : Int32} {p2 : Int32} {p3 : Nat} {r : (Int32 × gk_S)} (hb : r.1 = 0 ∨ (1 ≤ k ∧ 6 ≤ j)) (h0 : f_L_shadowed F S p0 p1 p2 p3 = some r) : EvM X m_L_shadowed 49 k j [.ref p0, .int p1, .int p2, .ref p3] S (qRI r) := by
  unfold f_L_shadowed at h0
  refine ev_methodH (by decide +kernel) (by decide) rfl (Nat.le_of_ble_eq_true rfl) ?_
  show EvW X m_L_shadowed 49 k j 0 [some (.ref p0), some (.int p1), some (.int p2), some (.ref p3), none] [] S _
  refine ev_aload_n (pc := 0) (i := 3) rfl rfl rfl dL_shadowed_0 ?_
  refine ev_iconst (pc := 1) (v := 0) (by decide) dL_shadowed_1 ?_
  refine ev_aload_n (pc := 2) (i := 0) rfl rfl rfl dL_shadowed_2 ?_
  refine ev_iload_n (pc := 3) (i := 1) rfl rfl dL_shadowed_3 ?_
  refine ev_iload_n (pc := 4) (i := 2) rfl rfl dL_shadowed_4 ?_
  obtain ⟨g1, h2⟩ := qk_el h0; clear h0
  rcases qh_el h2 with ⟨E7, T8, e5, h6⟩ | ⟨x3, S4, e5, h6⟩
  · by_cases c9 : E7 = gx_I
    · replace h6 := qi_t h6 c9; subst c9
      have hb9 : 1 ≤ k ∧ 6 ≤ j := by cases h6; exact hb.resolve_left (show ¬ (1 : Int32) = 0 by decide)
      refine yv_catV (pc := 5) (st := [.int 0, .ref p3]) (as := [.int p1, .int p2]) (i9 := 4) (len9 := 2) (pre := []) (suf := [(0, 17, 24, 22)]) (x := (0, 17, 20, 13)) (name := "java/lang/IndexOutOfBoundsException") ok_X11_shadowed (e_X11_shadowed (k := k) (j := j) (fun _ _ => hb9) e5) (isb_el g1) rfl (by intro z hz; cases hz) (by decide) (by decide) (by decide) gw_381 (by decide +kernel) (.inl ⟨rfl, rfl⟩) (by decide) rfl (gl9 rfl) (by decide) rfl (Nat.le_of_ble_eq_true rfl) rfl gw_812 dL_shadowed_5 dL_shadowed_20 ?_
      refine ev_iconst (pc := 22) (v := 1) (by decide) dL_shadowed_22 ?_
      exact ev_ireturn (pc := 23) rfl rfl (by cases h6; rfl) dL_shadowed_23
    replace h6 := qi_f h6 c9
    by_cases c10 : E7 = gx_E
    · replace h6 := qi_t h6 c10; subst c10
      have hb9 : 1 ≤ k ∧ 6 ≤ j := by cases h6; exact hb.resolve_left (show ¬ (2 : Int32) = 0 by decide)
      refine yv_catV (pc := 5) (st := [.int 0, .ref p3]) (as := [.int p1, .int p2]) (i9 := 4) (len9 := 2) (pre := [(0, 17, 20, 13)]) (suf := []) (x := (0, 17, 24, 22)) (name := "java/util/NoSuchElementException") ok_X11_shadowed (e_X11_shadowed (k := k) (j := j) (fun _ _ => hb9) e5) (isb_el g1) rfl (by intro z hz; rcases List.mem_singleton.mp hz with rfl; exact ⟨by decide, "java/lang/IndexOutOfBoundsException", gw_381, by decide +kernel⟩) (by decide) (by decide) (by decide) gw_672 (by decide +kernel) (.inl ⟨rfl, rfl⟩) (by decide) rfl (gl9 rfl) (by decide) rfl (Nat.le_of_ble_eq_true rfl) rfl gw_812 dL_shadowed_5 dL_shadowed_24 ?_
      refine ev_iconst (pc := 26) (v := 2) (by decide) dL_shadowed_26 ?_
      exact ev_ireturn (pc := 27) rfl rfl (by cases h6; rfl) dL_shadowed_27
    replace h6 := qi_f h6 c10
    cases h6
  clear h2
  refine xv_callV (pc := 5) (st := [.int 0, .ref p3]) (as := [.int p1, .int p2]) (v := (some (.int x3))) (S' := S4) ok_X11_shadowed (e_X11_shadowed (k := 0) (j := 0) qb_inl e5) (isb_el g1) (by decide) rfl (Nat.le_of_ble_eq_true rfl) rfl gw_812 dL_shadowed_5 ?_
  refine ev_if_eq (pc := 8) (tgt := 15) (by decide) dL_shadowed_8 (fun c11 => ?_) (fun c11 => ?_)
  · replace h6 := qi_t h6 c11
    refine ev_lconst (pc := 15) (v := 0) (by decide) dL_shadowed_15 ?_
    obtain ⟨g13, h14⟩ := qk_el h6; clear h6
    obtain ⟨g15, h16⟩ := qk_el h14; clear h14
    obtain ⟨S17, e18, h19⟩ := qv_el h16; clear h16
    refine yv_last (pc := 16) (isb_el g13) (inb_el g15) e18 dL_shadowed_16 ?_
    refine ev_goto (pc := 17) (tgt := 28) (by decide) dL_shadowed_17 ?_
    refine ev_iconst (pc := 28) (v := 0) (by decide) dL_shadowed_28 ?_
    exact ev_ireturn (pc := 29) rfl (nar_int _) (qRI_eq h19) dL_shadowed_29
  · replace h6 := qi_f h6 c11
    refine ev_lconst (pc := 11) (v := 1) (by decide) dL_shadowed_11 ?_
    refine ev_goto (pc := 12) (tgt := 16) (by decide) dL_shadowed_12 ?_
    obtain ⟨g20, h21⟩ := qk_el h6; clear h6
    obtain ⟨g22, h23⟩ := qk_el h21; clear h21
    obtain ⟨S24, e25, h26⟩ := qv_el h23; clear h23
    refine yv_last (pc := 16) (isb_el g20) (inb_el g22) e25 dL_shadowed_16 ?_
    refine ev_goto (pc := 17) (tgt := 28) (by decide) dL_shadowed_17 ?_
    refine ev_iconst (pc := 28) (v := 0) (by decide) dL_shadowed_28 ?_
    exact ev_ireturn (pc := 29) rfl (nar_int _) (qRI_eq h26) dL_shadowed_29
theorem dX12_forgetVain_0 : decode cX12_forgetVain 0 = .ok (.iconst 0, 1) := by decide +kernel
theorem dX12_forgetVain_1 : decode cX12_forgetVain 1 = .ok (.istore_n 1, 1) := by decide +kernel
theorem dX12_forgetVain_2 : decode cX12_forgetVain 2 = .ok (.iload_n 1, 1) := by decide +kernel
theorem dX12_forgetVain_3 : decode cX12_forgetVain 3 = .ok (.sipush 16384, 3) := by decide +kernel
theorem dX12_forgetVain_6 : decode cX12_forgetVain 6 = .ok (.if_icmp .ge 16, 3) := by decide +kernel
theorem dX12_forgetVain_9 : decode cX12_forgetVain 9 = .ok (.aload_n 0, 1) := by decide +kernel
theorem dX12_forgetVain_10 : decode cX12_forgetVain 10 = .ok (.getfield 83, 3) := by decide +kernel
theorem dX12_forgetVain_13 : decode cX12_forgetVain 13 = .ok (.iload_n 1, 1) := by decide +kernel
theorem dX12_forgetVain_14 : decode cX12_forgetVain 14 = .ok (.iconst 0, 1) := by decide +kernel
theorem dX12_forgetVain_15 : decode cX12_forgetVain 15 = .ok (.bastore, 1) := by decide +kernel
theorem dX12_forgetVain_16 : decode cX12_forgetVain 16 = .ok (.iinc 1 1, 3) := by decide +kernel
theorem dX12_forgetVain_19 : decode cX12_forgetVain 19 = .ok (.goto (-17), 3) := by decide +kernel
theorem dX12_forgetVain_22 : decode cX12_forgetVain 22 = .ok (.return_, 1) := by decide +kernel
theorem e_X12_forgetVain_2 {X : gk_X} {F : Nat} : ∀ (n : Nat) (l0 : Nat) (l1 : Int32) (S : gk_S) (r : (Unit × gk_S)), f_X12_forgetVain_2 F n l0 l1 S = some r → EvW X m_X12_forgetVain 1 0 0 2 [some (.ref l0), some (.int l1)] [] S (qRU r) := by
  intro n
  induction n with
  | zero => intro l0 l1 S r h0; rw [f_X12_forgetVain_2] at h0; cases h0
  | succ n ih =>
    intro l0 l1 S r h0; rw [f_X12_forgetVain_2] at h0
    refine ev_iload_n (pc := 2) (i := 1) rfl rfl dX12_forgetVain_2 ?_
    refine ev_sipush (pc := 3) (v := 16384) (by decide) dX12_forgetVain_3 ?_
    refine ev_ic_ge (pc := 6) (tgt := 22) (by decide) dX12_forgetVain_6 (fun c1 => ?_) (fun c1 => ?_)
    · replace h0 := qi_t h0 c1
      exact ev_return (pc := 22) rfl (qRU_eq h0) dX12_forgetVain_22
    · replace h0 := qi_f h0 c1
      refine ev_aload_n (pc := 9) (i := 0) rfl rfl rfl dX12_forgetVain_9 ?_
      obtain ⟨g3, h4⟩ := qk_el h0; clear h0
      obtain ⟨b5, e6, h7⟩ := qP_el h4; clear h4
      refine xv_getP (pc := 10) fn_929 (isb_el g3) e6 gw_1169 dX12_forgetVain_10 ?_
      refine ev_iload_n (pc := 13) (i := 1) rfl rfl dX12_forgetVain_13 ?_
      refine ev_iconst (pc := 14) (v := 0) (by decide) dX12_forgetVain_14 ?_
      obtain ⟨g8, h9⟩ := qk_el h7; clear h7
      obtain ⟨g10, h11⟩ := qk_el h9; clear h9
      obtain ⟨S12, e13, h14⟩ := qv_el h11; clear h11
      refine yv_zast (pc := 15) (isb_el g8) rfl (inb_el g10) e13 dX12_forgetVain_15 ?_
      refine ev_iinc (pc := 16) (L' := [some (.ref l0), some (.int (l1 + 1))]) (i := 1) (v := (l1 + 1)) rfl rfl (by decide) rfl rfl dX12_forgetVain_16 ?_
      refine ev_goto (pc := 19) (tgt := 2) (by decide) dX12_forgetVain_19 ?_
      exact (ev_weak (qL_s (qL_s qL_nil)) (ih _ _ _ _ h14))
theorem e_X12_forgetVain {X : gk_X} {F : Nat} {S : gk_S} {a : Nat} {r : (Unit × gk_S)} (h0 : f_X12_forgetVain F S a = some r) : EvM X m_X12_forgetVain 1 0 0 [.ref a] S (qRU r) := by
  unfold f_X12_forgetVain at h0
  refine ev_method (by decide +kernel) rfl rfl (Nat.le_of_ble_eq_true rfl) ?_
  show EvW X m_X12_forgetVain 1 0 0 0 [some (.ref a), none] [] S _
  refine ev_iconst (pc := 0) (v := 0) (by decide) dX12_forgetVain_0 ?_
  refine ev_istore_n (pc := 1) (L' := [some (.ref a), some (.int 0)]) (i := 1) rfl (by decide) rfl rfl dX12_forgetVain_1 ?_
  exact ev_weak (qL_s (qL_s qL_nil)) (e_X12_forgetVain_2 F _ _ _ _ h0)
theorem dX12_lowest_0 : decode cX12_lowest 0 = .ok (.aload_n 0, 1) := by decide +kernel
theorem dX12_lowest_1 : decode cX12_lowest 1 = .ok (.getfield 283, 3) := by decide +kernel
theorem dX12_lowest_4 : decode cX12_lowest 4 = .ok (.ifCond .ge 7, 3) := by decide +kernel
theorem dX12_lowest_7 : decode cX12_lowest 7 = .ok (.lconst 0, 1) := by decide +kernel
theorem dX12_lowest_8 : decode cX12_lowest 8 = .ok (.goto 17, 3) := by decide +kernel
theorem dX12_lowest_11 : decode cX12_lowest 11 = .ok (.aload_n 0, 1) := by decide +kernel
theorem dX12_lowest_12 : decode cX12_lowest 12 = .ok (.getfield 36, 3) := by decide +kernel
theorem dX12_lowest_15 : decode cX12_lowest 15 = .ok (.bipush 6, 2) := by decide +kernel
theorem dX12_lowest_17 : decode cX12_lowest 17 = .ok (.aload_n 0, 1) := by decide +kernel
theorem dX12_lowest_18 : decode cX12_lowest 18 = .ok (.getfield 283, 3) := by decide +kernel
theorem dX12_lowest_21 : decode cX12_lowest 21 = .ok (.imul, 1) := by decide +kernel
theorem dX12_lowest_22 : decode cX12_lowest 22 = .ok (.iload_n 1, 1) := by decide +kernel
theorem dX12_lowest_23 : decode cX12_lowest 23 = .ok (.iadd, 1) := by decide +kernel
theorem dX12_lowest_24 : decode cX12_lowest 24 = .ok (.laload, 1) := by decide +kernel
theorem dX12_lowest_25 : decode cX12_lowest 25 = .ok (.lreturn, 1) := by decide +kernel
theorem e_X12_lowest {X : gk_X} {F : Nat} {S : gk_S} {a : Nat} {p0 : Int32} {r : (Int64 × gk_S)} (h0 : f_X12_lowest F S a p0 = some r) : EvM X m_X12_lowest 1 0 0 [.ref a, .int p0] S (qRJ r) := by
  unfold f_X12_lowest at h0
  refine ev_method (by decide +kernel) rfl rfl (Nat.le_of_ble_eq_true rfl) ?_
  show EvW X m_X12_lowest 1 0 0 0 [some (.ref a), some (.int p0)] [] S _
  refine ev_aload_n (pc := 0) (i := 0) rfl rfl rfl dX12_lowest_0 ?_
  obtain ⟨g1, h2⟩ := qk_el h0; clear h0
  obtain ⟨x3, e4, h5⟩ := qv_el h2; clear h2
  refine xv_getIv (pc := 1) fn_930 (isb_el g1) e4 gw_1170 dX12_lowest_1 ?_
  refine ev_if_ge (pc := 4) (tgt := 11) (by decide) dX12_lowest_4 (fun c6 => ?_) (fun c6 => ?_)
  · replace h5 := qi_t h5 c6
    refine ev_aload_n (pc := 11) (i := 0) rfl rfl rfl dX12_lowest_11 ?_
    obtain ⟨b8, e9, h10⟩ := qP_el h5; clear h5
    refine xv_getP (pc := 12) fn_909 (isb_el g1) e9 gw_1149 dX12_lowest_12 ?_
    refine ev_bipush (pc := 15) (v := 6) (by decide) dX12_lowest_15 ?_
    refine ev_aload_n (pc := 17) (i := 0) rfl rfl rfl dX12_lowest_17 ?_
    obtain ⟨x11, e12, h13⟩ := qv_el h10; clear h10
    refine xv_getIv (pc := 18) fn_930 (isb_el g1) e12 gw_1170 dX12_lowest_18 ?_
    refine ev_imul (pc := 21)  dX12_lowest_21 ?_
    refine ev_iload_n (pc := 22) (i := 1) rfl rfl dX12_lowest_22 ?_
    refine ev_iadd (pc := 23)  dX12_lowest_23 ?_
    obtain ⟨g14, h15⟩ := qk_el h13; clear h13
    obtain ⟨g16, h17⟩ := qk_el h15; clear h15
    obtain ⟨x18, e19, h20⟩ := qv_el h17; clear h17
    refine yv_lald (pc := 24) (isb_el g14) (inb_el g16) e19 dX12_lowest_24 ?_
    exact ev_lreturn (pc := 25) rfl (qRJ_eq h20) dX12_lowest_25
  · replace h5 := qi_f h5 c6
    refine ev_lconst (pc := 7) (v := 0) (by decide) dX12_lowest_7 ?_
    refine ev_goto (pc := 8) (tgt := 25) (by decide) dX12_lowest_8 ?_
    exact ev_lreturn (pc := 25) rfl (qRJ_eq h5) dX12_lowest_25
theorem dX12_highest_0 : decode cX12_highest 0 = .ok (.aload_n 0, 1) := by decide +kernel
theorem dX12_highest_1 : decode cX12_highest 1 = .ok (.getfield 283, 3) := by decide +kernel
theorem dX12_highest_4 : decode cX12_highest 4 = .ok (.ifCond .ge 10, 3) := by decide +kernel
theorem dX12_highest_7 : decode cX12_highest 7 = .ok (.iload_n 1, 1) := by decide +kernel
theorem dX12_highest_8 : decode cX12_highest 8 = .ok (.invokestatic 201, 3) := by decide +kernel
theorem dX12_highest_11 : decode cX12_highest 11 = .ok (.goto 17, 3) := by decide +kernel
theorem dX12_highest_14 : decode cX12_highest 14 = .ok (.aload_n 0, 1) := by decide +kernel
theorem dX12_highest_15 : decode cX12_highest 15 = .ok (.getfield 40, 3) := by decide +kernel
theorem dX12_highest_18 : decode cX12_highest 18 = .ok (.bipush 6, 2) := by decide +kernel
theorem dX12_highest_20 : decode cX12_highest 20 = .ok (.aload_n 0, 1) := by decide +kernel
theorem dX12_highest_21 : decode cX12_highest 21 = .ok (.getfield 283, 3) := by decide +kernel
theorem dX12_highest_24 : decode cX12_highest 24 = .ok (.imul, 1) := by decide +kernel
theorem dX12_highest_25 : decode cX12_highest 25 = .ok (.iload_n 1, 1) := by decide +kernel
theorem dX12_highest_26 : decode cX12_highest 26 = .ok (.iadd, 1) := by decide +kernel
theorem dX12_highest_27 : decode cX12_highest 27 = .ok (.laload, 1) := by decide +kernel
theorem dX12_highest_28 : decode cX12_highest 28 = .ok (.lreturn, 1) := by decide +kernel
theorem e_X12_highest {X : gk_X} {F : Nat} {S : gk_S} {a : Nat} {p0 : Int32} {r : (Int64 × gk_S)} (h0 : f_X12_highest F S a p0 = some r) : EvM X m_X12_highest 2 0 0 [.ref a, .int p0] S (qRJ r) := by
  unfold f_X12_highest at h0
  refine ev_method (by decide +kernel) rfl rfl (Nat.le_of_ble_eq_true rfl) ?_
  show EvW X m_X12_highest 2 0 0 0 [some (.ref a), some (.int p0)] [] S _
  refine ev_aload_n (pc := 0) (i := 0) rfl rfl rfl dX12_highest_0 ?_
  obtain ⟨g1, h2⟩ := qk_el h0; clear h0
  obtain ⟨x3, e4, h5⟩ := qv_el h2; clear h2
  refine xv_getIv (pc := 1) fn_930 (isb_el g1) e4 gw_1170 dX12_highest_1 ?_
  refine ev_if_ge (pc := 4) (tgt := 14) (by decide) dX12_highest_4 (fun c6 => ?_) (fun c6 => ?_)
  · replace h5 := qi_t h5 c6
    refine ev_aload_n (pc := 14) (i := 0) rfl rfl rfl dX12_highest_14 ?_
    obtain ⟨b8, e9, h10⟩ := qP_el h5; clear h5
    refine xv_getP (pc := 15) fn_910 (isb_el g1) e9 gw_1150 dX12_highest_15 ?_
    refine ev_bipush (pc := 18) (v := 6) (by decide) dX12_highest_18 ?_
    refine ev_aload_n (pc := 20) (i := 0) rfl rfl rfl dX12_highest_20 ?_
    obtain ⟨x11, e12, h13⟩ := qv_el h10; clear h10
    refine xv_getIv (pc := 21) fn_930 (isb_el g1) e12 gw_1170 dX12_highest_21 ?_
    refine ev_imul (pc := 24)  dX12_highest_24 ?_
    refine ev_iload_n (pc := 25) (i := 1) rfl rfl dX12_highest_25 ?_
    refine ev_iadd (pc := 26)  dX12_highest_26 ?_
    obtain ⟨g14, h15⟩ := qk_el h13; clear h13
    obtain ⟨g16, h17⟩ := qk_el h15; clear h15
    obtain ⟨x18, e19, h20⟩ := qv_el h17; clear h17
    refine yv_lald (pc := 27) (isb_el g14) (inb_el g16) e19 dX12_highest_27 ?_
    exact ev_lreturn (pc := 28) rfl (qRJ_eq h20) dX12_highest_28
  · replace h5 := qi_f h5 c6
    refine ev_iload_n (pc := 7) (i := 1) rfl rfl dX12_highest_7 ?_
    obtain ⟨x21, S22, e23, h24⟩ := qc_el h5; clear h5
    refine xv_callS (pc := 8) (st := []) (as := [.int p0]) (v := (some (.long x21))) (S' := S22) ok_X12_most (e_X12_most e23) (by decide) rfl (Nat.le_of_ble_eq_true rfl) rfl gw_1344 dX12_highest_8 ?_
    refine ev_goto (pc := 11) (tgt := 28) (by decide) dX12_highest_11 ?_
    exact ev_lreturn (pc := 28) rfl (qRJ_eq h24) dX12_highest_28
theorem dX12_statesAsked_0 : decode cX12_statesAsked 0 = .ok (.aload_n 0, 1) := by decide +kernel
theorem dX12_statesAsked_1 : decode cX12_statesAsked 1 = .ok (.getfield 283, 3) := by decide +kernel
theorem dX12_statesAsked_4 : decode cX12_statesAsked 4 = .ok (.ifCond .ge 8, 3) := by decide +kernel
theorem dX12_statesAsked_7 : decode cX12_statesAsked 7 = .ok (.bipush 15, 2) := by decide +kernel
theorem dX12_statesAsked_9 : decode cX12_statesAsked 9 = .ok (.goto 12, 3) := by decide +kernel
theorem dX12_statesAsked_12 : decode cX12_statesAsked 12 = .ok (.aload_n 0, 1) := by decide +kernel
theorem dX12_statesAsked_13 : decode cX12_statesAsked 13 = .ok (.getfield 33, 3) := by decide +kernel
theorem dX12_statesAsked_16 : decode cX12_statesAsked 16 = .ok (.aload_n 0, 1) := by decide +kernel
theorem dX12_statesAsked_17 : decode cX12_statesAsked 17 = .ok (.getfield 283, 3) := by decide +kernel
theorem dX12_statesAsked_20 : decode cX12_statesAsked 20 = .ok (.iaload, 1) := by decide +kernel
theorem dX12_statesAsked_21 : decode cX12_statesAsked 21 = .ok (.ireturn, 1) := by decide +kernel
theorem e_X12_statesAsked {X : gk_X} {F : Nat} {S : gk_S} {a : Nat} {r : (Int32 × gk_S)} (h0 : f_X12_statesAsked F S a = some r) : EvM X m_X12_statesAsked 1 0 0 [.ref a] S (qRI r) := by
  unfold f_X12_statesAsked at h0
  refine ev_method (by decide +kernel) rfl rfl (Nat.le_of_ble_eq_true rfl) ?_
  show EvW X m_X12_statesAsked 1 0 0 0 [some (.ref a)] [] S _
  refine ev_aload_n (pc := 0) (i := 0) rfl rfl rfl dX12_statesAsked_0 ?_
  obtain ⟨g1, h2⟩ := qk_el h0; clear h0
  obtain ⟨x3, e4, h5⟩ := qv_el h2; clear h2
  refine xv_getIv (pc := 1) fn_930 (isb_el g1) e4 gw_1170 dX12_statesAsked_1 ?_
  refine ev_if_ge (pc := 4) (tgt := 12) (by decide) dX12_statesAsked_4 (fun c6 => ?_) (fun c6 => ?_)
  · replace h5 := qi_t h5 c6
    refine ev_aload_n (pc := 12) (i := 0) rfl rfl rfl dX12_statesAsked_12 ?_
    obtain ⟨b8, e9, h10⟩ := qP_el h5; clear h5
    refine xv_getP (pc := 13) fn_908 (isb_el g1) e9 gw_1148 dX12_statesAsked_13 ?_
    refine ev_aload_n (pc := 16) (i := 0) rfl rfl rfl dX12_statesAsked_16 ?_
    obtain ⟨x11, e12, h13⟩ := qv_el h10; clear h10
    refine xv_getIv (pc := 17) fn_930 (isb_el g1) e12 gw_1170 dX12_statesAsked_17 ?_
    obtain ⟨g14, h15⟩ := qk_el h13; clear h13
    obtain ⟨g16, h17⟩ := qk_el h15; clear h15
    obtain ⟨x18, e19, h20⟩ := qv_el h17; clear h17
    refine yv_iald (pc := 20) (isb_el g14) (inb_el g16) e19 dX12_statesAsked_20 ?_
    exact ev_ireturn (pc := 21) rfl (nar_int _) (qRI_eq h20) dX12_statesAsked_21
  · replace h5 := qi_f h5 c6
    refine ev_bipush (pc := 7) (v := 15) (by decide) dX12_statesAsked_7 ?_
    refine ev_goto (pc := 9) (tgt := 21) (by decide) dX12_statesAsked_9 ?_
    exact ev_ireturn (pc := 21) rfl (nar_int _) (qRI_eq h5) dX12_statesAsked_21
theorem dX12_isAll_0 : decode cX12_isAll 0 = .ok (.iload_n 2, 1) := by decide +kernel
theorem dX12_isAll_1 : decode cX12_isAll 1 = .ok (.istore_n 3, 1) := by decide +kernel
theorem dX12_isAll_2 : decode cX12_isAll 2 = .ok (.iload_n 3, 1) := by decide +kernel
theorem dX12_isAll_3 : decode cX12_isAll 3 = .ok (.bipush 6, 2) := by decide +kernel
theorem dX12_isAll_5 : decode cX12_isAll 5 = .ok (.if_icmp .ge 51, 3) := by decide +kernel
theorem dX12_isAll_8 : decode cX12_isAll 8 = .ok (.aload_n 0, 1) := by decide +kernel
theorem dX12_isAll_9 : decode cX12_isAll 9 = .ok (.getfield 36, 3) := by decide +kernel
theorem dX12_isAll_12 : decode cX12_isAll 12 = .ok (.bipush 6, 2) := by decide +kernel
theorem dX12_isAll_14 : decode cX12_isAll 14 = .ok (.iload_n 1, 1) := by decide +kernel
theorem dX12_isAll_15 : decode cX12_isAll 15 = .ok (.imul, 1) := by decide +kernel
theorem dX12_isAll_16 : decode cX12_isAll 16 = .ok (.iload_n 3, 1) := by decide +kernel
theorem dX12_isAll_17 : decode cX12_isAll 17 = .ok (.iadd, 1) := by decide +kernel
theorem dX12_isAll_18 : decode cX12_isAll 18 = .ok (.laload, 1) := by decide +kernel
theorem dX12_isAll_19 : decode cX12_isAll 19 = .ok (.aload_n 0, 1) := by decide +kernel
theorem dX12_isAll_20 : decode cX12_isAll 20 = .ok (.iload_n 3, 1) := by decide +kernel
theorem dX12_isAll_21 : decode cX12_isAll 21 = .ok (.invokevirtual 274, 3) := by decide +kernel
theorem dX12_isAll_24 : decode cX12_isAll 24 = .ok (.lcmp, 1) := by decide +kernel
theorem dX12_isAll_25 : decode cX12_isAll 25 = .ok (.ifCond .gt 23, 3) := by decide +kernel
theorem dX12_isAll_28 : decode cX12_isAll 28 = .ok (.aload_n 0, 1) := by decide +kernel
theorem dX12_isAll_29 : decode cX12_isAll 29 = .ok (.getfield 40, 3) := by decide +kernel
theorem dX12_isAll_32 : decode cX12_isAll 32 = .ok (.bipush 6, 2) := by decide +kernel
theorem dX12_isAll_34 : decode cX12_isAll 34 = .ok (.iload_n 1, 1) := by decide +kernel
theorem dX12_isAll_35 : decode cX12_isAll 35 = .ok (.imul, 1) := by decide +kernel
theorem dX12_isAll_36 : decode cX12_isAll 36 = .ok (.iload_n 3, 1) := by decide +kernel
theorem dX12_isAll_37 : decode cX12_isAll 37 = .ok (.iadd, 1) := by decide +kernel
theorem dX12_isAll_38 : decode cX12_isAll 38 = .ok (.laload, 1) := by decide +kernel
theorem dX12_isAll_39 : decode cX12_isAll 39 = .ok (.aload_n 0, 1) := by decide +kernel
theorem dX12_isAll_40 : decode cX12_isAll 40 = .ok (.iload_n 3, 1) := by decide +kernel
theorem dX12_isAll_41 : decode cX12_isAll 41 = .ok (.invokevirtual 277, 3) := by decide +kernel
theorem dX12_isAll_44 : decode cX12_isAll 44 = .ok (.lcmp, 1) := by decide +kernel
theorem dX12_isAll_45 : decode cX12_isAll 45 = .ok (.ifCond .ge 5, 3) := by decide +kernel
theorem dX12_isAll_48 : decode cX12_isAll 48 = .ok (.iconst 0, 1) := by decide +kernel
theorem dX12_isAll_49 : decode cX12_isAll 49 = .ok (.ireturn, 1) := by decide +kernel
theorem dX12_isAll_50 : decode cX12_isAll 50 = .ok (.iinc 3 1, 3) := by decide +kernel
theorem dX12_isAll_53 : decode cX12_isAll 53 = .ok (.goto (-51), 3) := by decide +kernel
theorem dX12_isAll_56 : decode cX12_isAll 56 = .ok (.aload_n 0, 1) := by decide +kernel
theorem dX12_isAll_57 : decode cX12_isAll 57 = .ok (.getfield 33, 3) := by decide +kernel
theorem dX12_isAll_60 : decode cX12_isAll 60 = .ok (.iload_n 1, 1) := by decide +kernel
theorem dX12_isAll_61 : decode cX12_isAll 61 = .ok (.iaload, 1) := by decide +kernel
theorem dX12_isAll_62 : decode cX12_isAll 62 = .ok (.aload_n 0, 1) := by decide +kernel
theorem dX12_isAll_63 : decode cX12_isAll 63 = .ok (.invokevirtual 280, 3) := by decide +kernel
theorem dX12_isAll_66 : decode cX12_isAll 66 = .ok (.iand, 1) := by decide +kernel
theorem dX12_isAll_67 : decode cX12_isAll 67 = .ok (.aload_n 0, 1) := by decide +kernel
theorem dX12_isAll_68 : decode cX12_isAll 68 = .ok (.invokevirtual 280, 3) := by decide +kernel
theorem dX12_isAll_71 : decode cX12_isAll 71 = .ok (.if_icmp .ne 7, 3) := by decide +kernel
theorem dX12_isAll_74 : decode cX12_isAll 74 = .ok (.iconst 1, 1) := by decide +kernel
theorem dX12_isAll_75 : decode cX12_isAll 75 = .ok (.goto 4, 3) := by decide +kernel
theorem dX12_isAll_78 : decode cX12_isAll 78 = .ok (.iconst 0, 1) := by decide +kernel
theorem dX12_isAll_79 : decode cX12_isAll 79 = .ok (.ireturn, 1) := by decide +kernel
theorem e_X12_isAll_2 {X : gk_X} {F : Nat} : ∀ (n : Nat) (l0 : Nat) (l1 : Int32) (l3 : Int32) (S : gk_S) (r : (Int32 × gk_S)), f_X12_isAll_2 F n l0 l1 l3 S = some r → EvW X m_X12_isAll 3 0 0 2 [some (.ref l0), some (.int l1), none, some (.int l3)] [] S (qRI r) := by
  intro n
  induction n with
  | zero => intro l0 l1 l3 S r h0; rw [f_X12_isAll_2] at h0; cases h0
  | succ n ih =>
    intro l0 l1 l3 S r h0; rw [f_X12_isAll_2] at h0
    refine ev_iload_n (pc := 2) (i := 3) rfl rfl dX12_isAll_2 ?_
    refine ev_bipush (pc := 3) (v := 6) (by decide) dX12_isAll_3 ?_
    refine ev_ic_ge (pc := 5) (tgt := 56) (by decide) dX12_isAll_5 (fun c1 => ?_) (fun c1 => ?_)
    · replace h0 := qi_t h0 c1
      refine ev_aload_n (pc := 56) (i := 0) rfl rfl rfl dX12_isAll_56 ?_
      obtain ⟨g3, h4⟩ := qk_el h0; clear h0
      obtain ⟨b5, e6, h7⟩ := qP_el h4; clear h4
      refine xv_getP (pc := 57) fn_908 (isb_el g3) e6 gw_1148 dX12_isAll_57 ?_
      refine ev_iload_n (pc := 60) (i := 1) rfl rfl dX12_isAll_60 ?_
      obtain ⟨g8, h9⟩ := qk_el h7; clear h7
      obtain ⟨g10, h11⟩ := qk_el h9; clear h9
      obtain ⟨x12, e13, h14⟩ := qv_el h11; clear h11
      refine yv_iald (pc := 61) (isb_el g8) (inb_el g10) e13 dX12_isAll_61 ?_
      refine ev_aload_n (pc := 62) (i := 0) rfl rfl rfl dX12_isAll_62 ?_
      obtain ⟨x15, S16, e17, h18⟩ := qc_el h14; clear h14
      refine xv_callV (pc := 63) (st := [.int x12]) (as := []) (v := (some (.int x15))) (S' := S16) ok_X12_statesAsked (e_X12_statesAsked e17) (isb_el g3) (by decide) rfl (Nat.le_of_ble_eq_true rfl) rfl gw_1476 dX12_isAll_63 ?_
      refine ev_iand (pc := 66)  dX12_isAll_66 ?_
      refine ev_aload_n (pc := 67) (i := 0) rfl rfl rfl dX12_isAll_67 ?_
      obtain ⟨g19, h20⟩ := qk_el h18; clear h18
      obtain ⟨x21, S22, e23, h24⟩ := qc_el h20; clear h20
      refine xv_callV (pc := 68) (st := [.int (x12 &&& x15)]) (as := []) (v := (some (.int x21))) (S' := S22) ok_X12_statesAsked (e_X12_statesAsked e23) (isb_el g19) (by decide) rfl (Nat.le_of_ble_eq_true rfl) rfl gw_1476 dX12_isAll_68 ?_
      refine ev_ic_ne (pc := 71) (tgt := 78) (by decide) dX12_isAll_71 (fun c25 => ?_) (fun c25 => ?_)
      · replace h24 := qi_f h24 c25
        refine ev_iconst (pc := 78) (v := 0) (by decide) dX12_isAll_78 ?_
        exact ev_ireturn (pc := 79) rfl rfl (qRI_eq h24) dX12_isAll_79
      · replace h24 := qi_t h24 c25
        refine ev_iconst (pc := 74) (v := 1) (by decide) dX12_isAll_74 ?_
        refine ev_goto (pc := 75) (tgt := 79) (by decide) dX12_isAll_75 ?_
        exact ev_ireturn (pc := 79) rfl rfl (qRI_eq h24) dX12_isAll_79
    · replace h0 := qi_f h0 c1
      refine ev_aload_n (pc := 8) (i := 0) rfl rfl rfl dX12_isAll_8 ?_
      obtain ⟨g27, h28⟩ := qk_el h0; clear h0
      obtain ⟨b29, e30, h31⟩ := qP_el h28; clear h28
      refine xv_getP (pc := 9) fn_909 (isb_el g27) e30 gw_1149 dX12_isAll_9 ?_
      refine ev_bipush (pc := 12) (v := 6) (by decide) dX12_isAll_12 ?_
      refine ev_iload_n (pc := 14) (i := 1) rfl rfl dX12_isAll_14 ?_
      refine ev_imul (pc := 15)  dX12_isAll_15 ?_
      refine ev_iload_n (pc := 16) (i := 3) rfl rfl dX12_isAll_16 ?_
      refine ev_iadd (pc := 17)  dX12_isAll_17 ?_
      obtain ⟨g32, h33⟩ := qk_el h31; clear h31
      obtain ⟨g34, h35⟩ := qk_el h33; clear h33
      obtain ⟨x36, e37, h38⟩ := qv_el h35; clear h35
      refine yv_lald (pc := 18) (isb_el g32) (inb_el g34) e37 dX12_isAll_18 ?_
      refine ev_aload_n (pc := 19) (i := 0) rfl rfl rfl dX12_isAll_19 ?_
      refine ev_iload_n (pc := 20) (i := 3) rfl rfl dX12_isAll_20 ?_
      obtain ⟨x39, S40, e41, h42⟩ := qc_el h38; clear h38
      refine xv_callV (pc := 21) (st := [.long x36]) (as := [.int l3]) (v := (some (.long x39))) (S' := S40) ok_X12_lowest (e_X12_lowest e41) (isb_el g27) (by decide) rfl (Nat.le_of_ble_eq_true rfl) rfl gw_1468 dX12_isAll_21 ?_
      refine ev_lcmp (pc := 24)  dX12_isAll_24 ?_
      refine ev_if_gt (pc := 25) (tgt := 48) (by decide) dX12_isAll_25 (fun c43 => ?_) (fun c43 => ?_)
      · replace h42 := qi_t h42 (lc_gt c43)
        refine ev_iconst (pc := 48) (v := 0) (by decide) dX12_isAll_48 ?_
        exact ev_ireturn (pc := 49) rfl rfl (qRI_eq h42) dX12_isAll_49
      · replace h42 := qi_f h42 (lc_gtN c43)
        refine ev_aload_n (pc := 28) (i := 0) rfl rfl rfl dX12_isAll_28 ?_
        obtain ⟨g45, h46⟩ := qk_el h42; clear h42
        obtain ⟨b47, e48, h49⟩ := qP_el h46; clear h46
        refine xv_getP (pc := 29) fn_910 (isb_el g45) e48 gw_1150 dX12_isAll_29 ?_
        refine ev_bipush (pc := 32) (v := 6) (by decide) dX12_isAll_32 ?_
        refine ev_iload_n (pc := 34) (i := 1) rfl rfl dX12_isAll_34 ?_
        refine ev_imul (pc := 35)  dX12_isAll_35 ?_
        refine ev_iload_n (pc := 36) (i := 3) rfl rfl dX12_isAll_36 ?_
        refine ev_iadd (pc := 37)  dX12_isAll_37 ?_
        obtain ⟨g50, h51⟩ := qk_el h49; clear h49
        obtain ⟨g52, h53⟩ := qk_el h51; clear h51
        obtain ⟨x54, e55, h56⟩ := qv_el h53; clear h53
        refine yv_lald (pc := 38) (isb_el g50) (inb_el g52) e55 dX12_isAll_38 ?_
        refine ev_aload_n (pc := 39) (i := 0) rfl rfl rfl dX12_isAll_39 ?_
        refine ev_iload_n (pc := 40) (i := 3) rfl rfl dX12_isAll_40 ?_
        obtain ⟨x57, S58, e59, h60⟩ := qc_el h56; clear h56
        refine xv_callV (pc := 41) (st := [.long x54]) (as := [.int l3]) (v := (some (.long x57))) (S' := S58) ok_X12_highest (e_X12_highest e59) (isb_el g45) (by decide) rfl (Nat.le_of_ble_eq_true rfl) rfl gw_1472 dX12_isAll_41 ?_
        refine ev_lcmp (pc := 44)  dX12_isAll_44 ?_
        refine ev_if_ge (pc := 45) (tgt := 50) (by decide) dX12_isAll_45 (fun c61 => ?_) (fun c61 => ?_)
        · replace h60 := qi_t h60 (lc_ge c61)
          refine ev_iinc (pc := 50) (L' := [some (.ref l0), some (.int l1), none, some (.int (l3 + 1))]) (i := 3) (v := (l3 + 1)) rfl rfl (by decide) rfl rfl dX12_isAll_50 ?_
          refine ev_goto (pc := 53) (tgt := 2) (by decide) dX12_isAll_53 ?_
          exact (ev_weak (qL_s (qL_s (qL_n (qL_s qL_nil)))) (ih _ _ _ _ _ h60))
        · replace h60 := qi_f h60 (lc_geN c61)
          refine ev_iconst (pc := 48) (v := 0) (by decide) dX12_isAll_48 ?_
          exact ev_ireturn (pc := 49) rfl rfl (qRI_eq h60) dX12_isAll_49
theorem e_X12_isAll {X : gk_X} {F : Nat} {S : gk_S} {a : Nat} {p0 : Int32} {p1 : Int32} {r : (Int32 × gk_S)} (h0 : f_X12_isAll F S a p0 p1 = some r) : EvM X m_X12_isAll 3 0 0 [.ref a, .int p0, .int p1] S (qRI r) := by
  unfold f_X12_isAll at h0
  refine ev_method (by decide +kernel) rfl rfl (Nat.le_of_ble_eq_true rfl) ?_
  show EvW X m_X12_isAll 3 0 0 0 [some (.ref a), some (.int p0), some (.int p1), none] [] S _
  refine ev_iload_n (pc := 0) (i := 2) rfl rfl dX12_isAll_0 ?_
  refine ev_istore_n (pc := 1) (L' := [some (.ref a), some (.int p0), some (.int p1), some (.int p1)]) (i := 3) rfl (by decide) rfl rfl dX12_isAll_1 ?_
  exact ev_weak (qL_s (qL_s (qL_n (qL_s qL_nil)))) (e_X12_isAll_2 F _ _ _ _ _ h0)
theorem dX12_cut_0 : decode cX12_cut 0 = .ok (.iconst 0, 1) := by decide +kernel
theorem dX12_cut_1 : decode cX12_cut 1 = .ok (.istore 4, 2) := by decide +kernel
theorem dX12_cut_3 : decode cX12_cut 3 = .ok (.iload 4, 2) := by decide +kernel
theorem dX12_cut_5 : decode cX12_cut 5 = .ok (.bipush 16, 2) := by decide +kernel
theorem dX12_cut_7 : decode cX12_cut 7 = .ok (.if_icmp .ge 43, 3) := by decide +kernel
theorem dX12_cut_10 : decode cX12_cut 10 = .ok (.iload_n 2, 1) := by decide +kernel
theorem dX12_cut_11 : decode cX12_cut 11 = .ok (.iload 4, 2) := by decide +kernel
theorem dX12_cut_13 : decode cX12_cut 13 = .ok (.ishr, 1) := by decide +kernel
theorem dX12_cut_14 : decode cX12_cut 14 = .ok (.iconst 1, 1) := by decide +kernel
theorem dX12_cut_15 : decode cX12_cut 15 = .ok (.iand, 1) := by decide +kernel
theorem dX12_cut_16 : decode cX12_cut 16 = .ok (.iconst 1, 1) := by decide +kernel
theorem dX12_cut_17 : decode cX12_cut 17 = .ok (.if_icmp .ne 27, 3) := by decide +kernel
theorem dX12_cut_20 : decode cX12_cut 20 = .ok (.aload_n 0, 1) := by decide +kernel
theorem dX12_cut_21 : decode cX12_cut 21 = .ok (.bipush 16, 2) := by decide +kernel
theorem dX12_cut_23 : decode cX12_cut 23 = .ok (.iload_n 1, 1) := by decide +kernel
theorem dX12_cut_24 : decode cX12_cut 24 = .ok (.imul, 1) := by decide +kernel
theorem dX12_cut_25 : decode cX12_cut 25 = .ok (.iload 4, 2) := by decide +kernel
theorem dX12_cut_27 : decode cX12_cut 27 = .ok (.iadd, 1) := by decide +kernel
theorem dX12_cut_28 : decode cX12_cut 28 = .ok (.iload_n 3, 1) := by decide +kernel
theorem dX12_cut_29 : decode cX12_cut 29 = .ok (.invokevirtual 286, 3) := by decide +kernel
theorem dX12_cut_32 : decode cX12_cut 32 = .ok (.ifCond .eq 12, 3) := by decide +kernel
theorem dX12_cut_35 : decode cX12_cut 35 = .ok (.iload_n 2, 1) := by decide +kernel
theorem dX12_cut_36 : decode cX12_cut 36 = .ok (.iconst 2, 1) := by decide +kernel
theorem dX12_cut_37 : decode cX12_cut 37 = .ok (.iload 4, 2) := by decide +kernel
theorem dX12_cut_39 : decode cX12_cut 39 = .ok (.ishl, 1) := by decide +kernel
theorem dX12_cut_40 : decode cX12_cut 40 = .ok (.iconst 1, 1) := by decide +kernel
theorem dX12_cut_41 : decode cX12_cut 41 = .ok (.isub, 1) := by decide +kernel
theorem dX12_cut_42 : decode cX12_cut 42 = .ok (.iand, 1) := by decide +kernel
theorem dX12_cut_43 : decode cX12_cut 43 = .ok (.ireturn, 1) := by decide +kernel
theorem dX12_cut_44 : decode cX12_cut 44 = .ok (.iinc 4 1, 3) := by decide +kernel
theorem dX12_cut_47 : decode cX12_cut 47 = .ok (.goto (-44), 3) := by decide +kernel
theorem dX12_cut_50 : decode cX12_cut 50 = .ok (.iload_n 2, 1) := by decide +kernel
theorem dX12_cut_51 : decode cX12_cut 51 = .ok (.ireturn, 1) := by decide +kernel
theorem e_X12_cut_3 {X : gk_X} {F : Nat} : ∀ (n : Nat) (l0 : Nat) (l1 : Int32) (l2 : Int32) (l3 : Int32) (l4 : Int32) (S : gk_S) (r : (Int32 × gk_S)), f_X12_cut_3 F n l0 l1 l2 l3 l4 S = some r → EvW X m_X12_cut 4 0 0 3 [some (.ref l0), some (.int l1), some (.int l2), some (.int l3), some (.int l4)] [] S (qRI r) := by
  intro n
  induction n with
  | zero => intro l0 l1 l2 l3 l4 S r h0; rw [f_X12_cut_3] at h0; cases h0
  | succ n ih =>
    intro l0 l1 l2 l3 l4 S r h0; rw [f_X12_cut_3] at h0
    refine ev_iload (pc := 3) (i := 4) rfl dX12_cut_3 ?_
    refine ev_bipush (pc := 5) (v := 16) (by decide) dX12_cut_5 ?_
    refine ev_ic_ge (pc := 7) (tgt := 50) (by decide) dX12_cut_7 (fun c1 => ?_) (fun c1 => ?_)
    · replace h0 := qi_t h0 c1
      refine ev_iload_n (pc := 50) (i := 2) rfl rfl dX12_cut_50 ?_
      exact ev_ireturn (pc := 51) rfl (nar_int _) (qRI_eq h0) dX12_cut_51
    · replace h0 := qi_f h0 c1
      refine ev_iload_n (pc := 10) (i := 2) rfl rfl dX12_cut_10 ?_
      refine ev_iload (pc := 11) (i := 4) rfl dX12_cut_11 ?_
      refine ev_ishr (pc := 13)  dX12_cut_13 ?_
      refine ev_iconst (pc := 14) (v := 1) (by decide) dX12_cut_14 ?_
      refine ev_iand (pc := 15)  dX12_cut_15 ?_
      refine ev_iconst (pc := 16) (v := 1) (by decide) dX12_cut_16 ?_
      refine ev_ic_ne (pc := 17) (tgt := 44) (by decide) dX12_cut_17 (fun c3 => ?_) (fun c3 => ?_)
      · replace h0 := qi_f h0 c3
        refine ev_iinc (pc := 44) (L' := [some (.ref l0), some (.int l1), some (.int l2), some (.int l3), some (.int (l4 + 1))]) (i := 4) (v := (l4 + 1)) rfl rfl (by decide) rfl rfl dX12_cut_44 ?_
        refine ev_goto (pc := 47) (tgt := 3) (by decide) dX12_cut_47 ?_
        exact (ev_weak (qL_s (qL_s (qL_s (qL_s (qL_s qL_nil))))) (ih _ _ _ _ _ _ _ h0))
      · replace h0 := qi_t h0 c3
        refine ev_aload_n (pc := 20) (i := 0) rfl rfl rfl dX12_cut_20 ?_
        refine ev_bipush (pc := 21) (v := 16) (by decide) dX12_cut_21 ?_
        refine ev_iload_n (pc := 23) (i := 1) rfl rfl dX12_cut_23 ?_
        refine ev_imul (pc := 24)  dX12_cut_24 ?_
        refine ev_iload (pc := 25) (i := 4) rfl dX12_cut_25 ?_
        refine ev_iadd (pc := 27)  dX12_cut_27 ?_
        refine ev_iload_n (pc := 28) (i := 3) rfl rfl dX12_cut_28 ?_
        obtain ⟨g5, h6⟩ := qk_el h0; clear h0
        obtain ⟨x7, S8, e9, h10⟩ := qc_el h6; clear h6
        refine xv_callV (pc := 29) (st := []) (as := [.int ((16 * l1) + l4), .int l3]) (v := (some (.int x7))) (S' := S8) ok_X12_isAll (e_X12_isAll e9) (isb_el g5) (by decide) rfl (Nat.le_of_ble_eq_true rfl) rfl gw_1464 dX12_cut_29 ?_
        refine ev_if_eq (pc := 32) (tgt := 44) (by decide) dX12_cut_32 (fun c11 => ?_) (fun c11 => ?_)
        · replace h10 := qi_t h10 c11
          refine ev_iinc (pc := 44) (L' := [some (.ref l0), some (.int l1), some (.int l2), some (.int l3), some (.int (l4 + 1))]) (i := 4) (v := (l4 + 1)) rfl rfl (by decide) rfl rfl dX12_cut_44 ?_
          refine ev_goto (pc := 47) (tgt := 3) (by decide) dX12_cut_47 ?_
          exact (ev_weak (qL_s (qL_s (qL_s (qL_s (qL_s qL_nil))))) (ih _ _ _ _ _ _ _ h10))
        · replace h10 := qi_f h10 c11
          refine ev_iload_n (pc := 35) (i := 2) rfl rfl dX12_cut_35 ?_
          refine ev_iconst (pc := 36) (v := 2) (by decide) dX12_cut_36 ?_
          refine ev_iload (pc := 37) (i := 4) rfl dX12_cut_37 ?_
          refine ev_ishl (pc := 39)  dX12_cut_39 ?_
          refine ev_iconst (pc := 40) (v := 1) (by decide) dX12_cut_40 ?_
          refine ev_isub (pc := 41)  dX12_cut_41 ?_
          refine ev_iand (pc := 42)  dX12_cut_42 ?_
          exact ev_ireturn (pc := 43) rfl (nar_int _) (qRI_eq h10) dX12_cut_43
theorem e_X12_cut {X : gk_X} {F : Nat} {S : gk_S} {a : Nat} {p0 : Int32} {p1 : Int32} {p2 : Int32} {r : (Int32 × gk_S)} (h0 : f_X12_cut F S a p0 p1 p2 = some r) : EvM X m_X12_cut 4 0 0 [.ref a, .int p0, .int p1, .int p2] S (qRI r) := by
  unfold f_X12_cut at h0
  refine ev_method (by decide +kernel) rfl rfl (Nat.le_of_ble_eq_true rfl) ?_
  show EvW X m_X12_cut 4 0 0 0 [some (.ref a), some (.int p0), some (.int p1), some (.int p2), none] [] S _
  refine ev_iconst (pc := 0) (v := 0) (by decide) dX12_cut_0 ?_
  refine ev_istore (pc := 1) (L' := [some (.ref a), some (.int p0), some (.int p1), some (.int p2), some (.int 0)]) (i := 4) (by decide) rfl rfl dX12_cut_1 ?_
  exact ev_weak (qL_s (qL_s (qL_s (qL_s (qL_s qL_nil))))) (e_X12_cut_3 F _ _ _ _ _ _ _ h0)
theorem dX12_actionOf_0 : decode cX12_actionOf 0 = .ok (.iconst 0, 1) := by decide +kernel
theorem dX12_actionOf_1 : decode cX12_actionOf 1 = .ok (.istore 4, 2) := by decide +kernel
theorem dX12_actionOf_3 : decode cX12_actionOf 3 = .ok (.iload 4, 2) := by decide +kernel
theorem dX12_actionOf_5 : decode cX12_actionOf 5 = .ok (.bipush 16, 2) := by decide +kernel
theorem dX12_actionOf_7 : decode cX12_actionOf 7 = .ok (.if_icmp .ge 52, 3) := by decide +kernel
theorem dX12_actionOf_10 : decode cX12_actionOf 10 = .ok (.iload_n 2, 1) := by decide +kernel
theorem dX12_actionOf_11 : decode cX12_actionOf 11 = .ok (.iload 4, 2) := by decide +kernel
theorem dX12_actionOf_13 : decode cX12_actionOf 13 = .ok (.ishr, 1) := by decide +kernel
theorem dX12_actionOf_14 : decode cX12_actionOf 14 = .ok (.iconst 1, 1) := by decide +kernel
theorem dX12_actionOf_15 : decode cX12_actionOf 15 = .ok (.iand, 1) := by decide +kernel
theorem dX12_actionOf_16 : decode cX12_actionOf 16 = .ok (.iconst 1, 1) := by decide +kernel
theorem dX12_actionOf_17 : decode cX12_actionOf 17 = .ok (.if_icmp .ne 36, 3) := by decide +kernel
theorem dX12_actionOf_20 : decode cX12_actionOf 20 = .ok (.aload_n 0, 1) := by decide +kernel
theorem dX12_actionOf_21 : decode cX12_actionOf 21 = .ok (.getfield 33, 3) := by decide +kernel
theorem dX12_actionOf_24 : decode cX12_actionOf 24 = .ok (.bipush 16, 2) := by decide +kernel
theorem dX12_actionOf_26 : decode cX12_actionOf 26 = .ok (.iload_n 1, 1) := by decide +kernel
theorem dX12_actionOf_27 : decode cX12_actionOf 27 = .ok (.imul, 1) := by decide +kernel
theorem dX12_actionOf_28 : decode cX12_actionOf 28 = .ok (.iload 4, 2) := by decide +kernel
theorem dX12_actionOf_30 : decode cX12_actionOf 30 = .ok (.iadd, 1) := by decide +kernel
theorem dX12_actionOf_31 : decode cX12_actionOf 31 = .ok (.iaload, 1) := by decide +kernel
theorem dX12_actionOf_32 : decode cX12_actionOf 32 = .ok (.iload_n 3, 1) := by decide +kernel
theorem dX12_actionOf_33 : decode cX12_actionOf 33 = .ok (.ishr, 1) := by decide +kernel
theorem dX12_actionOf_34 : decode cX12_actionOf 34 = .ok (.iconst 1, 1) := by decide +kernel
theorem dX12_actionOf_35 : decode cX12_actionOf 35 = .ok (.iand, 1) := by decide +kernel
theorem dX12_actionOf_36 : decode cX12_actionOf 36 = .ok (.iconst 1, 1) := by decide +kernel
theorem dX12_actionOf_37 : decode cX12_actionOf 37 = .ok (.if_icmp .ne 16, 3) := by decide +kernel
theorem dX12_actionOf_40 : decode cX12_actionOf 40 = .ok (.aload_n 0, 1) := by decide +kernel
theorem dX12_actionOf_41 : decode cX12_actionOf 41 = .ok (.getfield 29, 3) := by decide +kernel
theorem dX12_actionOf_44 : decode cX12_actionOf 44 = .ok (.bipush 16, 2) := by decide +kernel
theorem dX12_actionOf_46 : decode cX12_actionOf 46 = .ok (.iload_n 1, 1) := by decide +kernel
theorem dX12_actionOf_47 : decode cX12_actionOf 47 = .ok (.imul, 1) := by decide +kernel
theorem dX12_actionOf_48 : decode cX12_actionOf 48 = .ok (.iload 4, 2) := by decide +kernel
theorem dX12_actionOf_50 : decode cX12_actionOf 50 = .ok (.iadd, 1) := by decide +kernel
theorem dX12_actionOf_51 : decode cX12_actionOf 51 = .ok (.iaload, 1) := by decide +kernel
theorem dX12_actionOf_52 : decode cX12_actionOf 52 = .ok (.ireturn, 1) := by decide +kernel
theorem dX12_actionOf_53 : decode cX12_actionOf 53 = .ok (.iinc 4 1, 3) := by decide +kernel
theorem dX12_actionOf_56 : decode cX12_actionOf 56 = .ok (.goto (-53), 3) := by decide +kernel
theorem dX12_actionOf_59 : decode cX12_actionOf 59 = .ok (.aload_n 0, 1) := by decide +kernel
theorem dX12_actionOf_60 : decode cX12_actionOf 60 = .ok (.getfield 43, 3) := by decide +kernel
theorem dX12_actionOf_63 : decode cX12_actionOf 63 = .ok (.iload_n 1, 1) := by decide +kernel
theorem dX12_actionOf_64 : decode cX12_actionOf 64 = .ok (.iaload, 1) := by decide +kernel
theorem dX12_actionOf_65 : decode cX12_actionOf 65 = .ok (.ireturn, 1) := by decide +kernel
theorem e_X12_actionOf_3 {X : gk_X} {F : Nat} : ∀ (n : Nat) (l0 : Nat) (l1 : Int32) (l2 : Int32) (l3 : Int32) (l4 : Int32) (S : gk_S) (r : (Int32 × gk_S)), f_X12_actionOf_3 F n l0 l1 l2 l3 l4 S = some r → EvW X m_X12_actionOf 1 0 0 3 [some (.ref l0), some (.int l1), some (.int l2), some (.int l3), some (.int l4)] [] S (qRI r) := by
  intro n
  induction n with
  | zero => intro l0 l1 l2 l3 l4 S r h0; rw [f_X12_actionOf_3] at h0; cases h0
  | succ n ih =>
    intro l0 l1 l2 l3 l4 S r h0; rw [f_X12_actionOf_3] at h0
    refine ev_iload (pc := 3) (i := 4) rfl dX12_actionOf_3 ?_
    refine ev_bipush (pc := 5) (v := 16) (by decide) dX12_actionOf_5 ?_
    refine ev_ic_ge (pc := 7) (tgt := 59) (by decide) dX12_actionOf_7 (fun c1 => ?_) (fun c1 => ?_)
    · replace h0 := qi_t h0 c1
      refine ev_aload_n (pc := 59) (i := 0) rfl rfl rfl dX12_actionOf_59 ?_
      obtain ⟨g3, h4⟩ := qk_el h0; clear h0
      obtain ⟨b5, e6, h7⟩ := qP_el h4; clear h4
      refine xv_getP (pc := 60) fn_905 (isb_el g3) e6 gw_1145 dX12_actionOf_60 ?_
      refine ev_iload_n (pc := 63) (i := 1) rfl rfl dX12_actionOf_63 ?_
      obtain ⟨g8, h9⟩ := qk_el h7; clear h7
      obtain ⟨g10, h11⟩ := qk_el h9; clear h9
      obtain ⟨x12, e13, h14⟩ := qv_el h11; clear h11
      refine yv_iald (pc := 64) (isb_el g8) (inb_el g10) e13 dX12_actionOf_64 ?_
      exact ev_ireturn (pc := 65) rfl (nar_int _) (qRI_eq h14) dX12_actionOf_65
    · replace h0 := qi_f h0 c1
      refine ev_iload_n (pc := 10) (i := 2) rfl rfl dX12_actionOf_10 ?_
      refine ev_iload (pc := 11) (i := 4) rfl dX12_actionOf_11 ?_
      refine ev_ishr (pc := 13)  dX12_actionOf_13 ?_
      refine ev_iconst (pc := 14) (v := 1) (by decide) dX12_actionOf_14 ?_
      refine ev_iand (pc := 15)  dX12_actionOf_15 ?_
      refine ev_iconst (pc := 16) (v := 1) (by decide) dX12_actionOf_16 ?_
      refine ev_ic_ne (pc := 17) (tgt := 53) (by decide) dX12_actionOf_17 (fun c15 => ?_) (fun c15 => ?_)
      · replace h0 := qi_f h0 c15
        refine ev_iinc (pc := 53) (L' := [some (.ref l0), some (.int l1), some (.int l2), some (.int l3), some (.int (l4 + 1))]) (i := 4) (v := (l4 + 1)) rfl rfl (by decide) rfl rfl dX12_actionOf_53 ?_
        refine ev_goto (pc := 56) (tgt := 3) (by decide) dX12_actionOf_56 ?_
        exact (ev_weak (qL_s (qL_s (qL_s (qL_s (qL_s qL_nil))))) (ih _ _ _ _ _ _ _ h0))
      · replace h0 := qi_t h0 c15
        refine ev_aload_n (pc := 20) (i := 0) rfl rfl rfl dX12_actionOf_20 ?_
        obtain ⟨g17, h18⟩ := qk_el h0; clear h0
        obtain ⟨b19, e20, h21⟩ := qP_el h18; clear h18
        refine xv_getP (pc := 21) fn_908 (isb_el g17) e20 gw_1148 dX12_actionOf_21 ?_
        refine ev_bipush (pc := 24) (v := 16) (by decide) dX12_actionOf_24 ?_
        refine ev_iload_n (pc := 26) (i := 1) rfl rfl dX12_actionOf_26 ?_
        refine ev_imul (pc := 27)  dX12_actionOf_27 ?_
        refine ev_iload (pc := 28) (i := 4) rfl dX12_actionOf_28 ?_
        refine ev_iadd (pc := 30)  dX12_actionOf_30 ?_
        obtain ⟨g22, h23⟩ := qk_el h21; clear h21
        obtain ⟨g24, h25⟩ := qk_el h23; clear h23
        obtain ⟨x26, e27, h28⟩ := qv_el h25; clear h25
        refine yv_iald (pc := 31) (isb_el g22) (inb_el g24) e27 dX12_actionOf_31 ?_
        refine ev_iload_n (pc := 32) (i := 3) rfl rfl dX12_actionOf_32 ?_
        refine ev_ishr (pc := 33)  dX12_actionOf_33 ?_
        refine ev_iconst (pc := 34) (v := 1) (by decide) dX12_actionOf_34 ?_
        refine ev_iand (pc := 35)  dX12_actionOf_35 ?_
        refine ev_iconst (pc := 36) (v := 1) (by decide) dX12_actionOf_36 ?_
        refine ev_ic_ne (pc := 37) (tgt := 53) (by decide) dX12_actionOf_37 (fun c29 => ?_) (fun c29 => ?_)
        · replace h28 := qi_f h28 c29
          refine ev_iinc (pc := 53) (L' := [some (.ref l0), some (.int l1), some (.int l2), some (.int l3), some (.int (l4 + 1))]) (i := 4) (v := (l4 + 1)) rfl rfl (by decide) rfl rfl dX12_actionOf_53 ?_
          refine ev_goto (pc := 56) (tgt := 3) (by decide) dX12_actionOf_56 ?_
          exact (ev_weak (qL_s (qL_s (qL_s (qL_s (qL_s qL_nil))))) (ih _ _ _ _ _ _ _ h28))
        · replace h28 := qi_t h28 c29
          refine ev_aload_n (pc := 40) (i := 0) rfl rfl rfl dX12_actionOf_40 ?_
          obtain ⟨b31, e32, h33⟩ := qP_el h28; clear h28
          refine xv_getP (pc := 41) fn_907 (isb_el g17) e32 gw_1147 dX12_actionOf_41 ?_
          refine ev_bipush (pc := 44) (v := 16) (by decide) dX12_actionOf_44 ?_
          refine ev_iload_n (pc := 46) (i := 1) rfl rfl dX12_actionOf_46 ?_
          refine ev_imul (pc := 47)  dX12_actionOf_47 ?_
          refine ev_iload (pc := 48) (i := 4) rfl dX12_actionOf_48 ?_
          refine ev_iadd (pc := 50)  dX12_actionOf_50 ?_
          obtain ⟨g34, h35⟩ := qk_el h33; clear h33
          obtain ⟨g36, h37⟩ := qk_el h35; clear h35
          obtain ⟨x38, e39, h40⟩ := qv_el h37; clear h37
          refine yv_iald (pc := 51) (isb_el g34) (inb_el g36) e39 dX12_actionOf_51 ?_
          exact ev_ireturn (pc := 52) rfl (nar_int _) (qRI_eq h40) dX12_actionOf_52
theorem e_X12_actionOf {X : gk_X} {F : Nat} {S : gk_S} {a : Nat} {p0 : Int32} {p1 : Int32} {p2 : Int32} {r : (Int32 × gk_S)} (h0 : f_X12_actionOf F S a p0 p1 p2 = some r) : EvM X m_X12_actionOf 1 0 0 [.ref a, .int p0, .int p1, .int p2] S (qRI r) := by
  unfold f_X12_actionOf at h0
  refine ev_method (by decide +kernel) rfl rfl (Nat.le_of_ble_eq_true rfl) ?_
  show EvW X m_X12_actionOf 1 0 0 0 [some (.ref a), some (.int p0), some (.int p1), some (.int p2), none] [] S _
  refine ev_iconst (pc := 0) (v := 0) (by decide) dX12_actionOf_0 ?_
  refine ev_istore (pc := 1) (L' := [some (.ref a), some (.int p0), some (.int p1), some (.int p2), some (.int 0)]) (i := 4) (by decide) rfl rfl dX12_actionOf_1 ?_
  exact ev_weak (qL_s (qL_s (qL_s (qL_s (qL_s qL_nil))))) (e_X12_actionOf_3 F _ _ _ _ _ _ _ h0)
theorem dX12_stateOf_0 : decode cX12_stateOf 0 = .ok (.iconst 0, 1) := by decide +kernel
theorem dX12_stateOf_1 : decode cX12_stateOf 1 = .ok (.istore_n 3, 1) := by decide +kernel
theorem dX12_stateOf_2 : decode cX12_stateOf 2 = .ok (.iload_n 3, 1) := by decide +kernel
theorem dX12_stateOf_3 : decode cX12_stateOf 3 = .ok (.iconst 4, 1) := by decide +kernel
theorem dX12_stateOf_4 : decode cX12_stateOf 4 = .ok (.if_icmp .ge 132, 3) := by decide +kernel
theorem dX12_stateOf_7 : decode cX12_stateOf 7 = .ok (.aload_n 0, 1) := by decide +kernel
theorem dX12_stateOf_8 : decode cX12_stateOf 8 = .ok (.getfield 283, 3) := by decide +kernel
theorem dX12_stateOf_11 : decode cX12_stateOf 11 = .ok (.ifCond .lt 94, 3) := by decide +kernel
theorem dX12_stateOf_14 : decode cX12_stateOf 14 = .ok (.iconst 0, 1) := by decide +kernel
theorem dX12_stateOf_15 : decode cX12_stateOf 15 = .ok (.istore 4, 2) := by decide +kernel
theorem dX12_stateOf_17 : decode cX12_stateOf 17 = .ok (.iconst 0, 1) := by decide +kernel
theorem dX12_stateOf_18 : decode cX12_stateOf 18 = .ok (.istore 5, 2) := by decide +kernel
theorem dX12_stateOf_20 : decode cX12_stateOf 20 = .ok (.iload 5, 2) := by decide +kernel
theorem dX12_stateOf_22 : decode cX12_stateOf 22 = .ok (.bipush 16, 2) := by decide +kernel
theorem dX12_stateOf_24 : decode cX12_stateOf 24 = .ok (.if_icmp .ge 54, 3) := by decide +kernel
theorem dX12_stateOf_27 : decode cX12_stateOf 27 = .ok (.iload 4, 2) := by decide +kernel
theorem dX12_stateOf_29 : decode cX12_stateOf 29 = .ok (.ifCond .ne 36, 3) := by decide +kernel
theorem dX12_stateOf_32 : decode cX12_stateOf 32 = .ok (.iload_n 1, 1) := by decide +kernel
theorem dX12_stateOf_33 : decode cX12_stateOf 33 = .ok (.iload 5, 2) := by decide +kernel
theorem dX12_stateOf_35 : decode cX12_stateOf 35 = .ok (.ishr, 1) := by decide +kernel
theorem dX12_stateOf_36 : decode cX12_stateOf 36 = .ok (.iconst 1, 1) := by decide +kernel
theorem dX12_stateOf_37 : decode cX12_stateOf 37 = .ok (.iand, 1) := by decide +kernel
theorem dX12_stateOf_38 : decode cX12_stateOf 38 = .ok (.iconst 1, 1) := by decide +kernel
theorem dX12_stateOf_39 : decode cX12_stateOf 39 = .ok (.if_icmp .ne 30, 3) := by decide +kernel
theorem dX12_stateOf_42 : decode cX12_stateOf 42 = .ok (.aload_n 0, 1) := by decide +kernel
theorem dX12_stateOf_43 : decode cX12_stateOf 43 = .ok (.getfield 33, 3) := by decide +kernel
theorem dX12_stateOf_46 : decode cX12_stateOf 46 = .ok (.bipush 16, 2) := by decide +kernel
theorem dX12_stateOf_48 : decode cX12_stateOf 48 = .ok (.aload_n 0, 1) := by decide +kernel
theorem dX12_stateOf_49 : decode cX12_stateOf 49 = .ok (.getfield 289, 3) := by decide +kernel
theorem dX12_stateOf_52 : decode cX12_stateOf 52 = .ok (.imul, 1) := by decide +kernel
theorem dX12_stateOf_53 : decode cX12_stateOf 53 = .ok (.iload 5, 2) := by decide +kernel
theorem dX12_stateOf_55 : decode cX12_stateOf 55 = .ok (.iadd, 1) := by decide +kernel
theorem dX12_stateOf_56 : decode cX12_stateOf 56 = .ok (.iaload, 1) := by decide +kernel
theorem dX12_stateOf_57 : decode cX12_stateOf 57 = .ok (.iload_n 3, 1) := by decide +kernel
theorem dX12_stateOf_58 : decode cX12_stateOf 58 = .ok (.ishr, 1) := by decide +kernel
theorem dX12_stateOf_59 : decode cX12_stateOf 59 = .ok (.iconst 1, 1) := by decide +kernel
theorem dX12_stateOf_60 : decode cX12_stateOf 60 = .ok (.iand, 1) := by decide +kernel
theorem dX12_stateOf_61 : decode cX12_stateOf 61 = .ok (.iconst 1, 1) := by decide +kernel
theorem dX12_stateOf_62 : decode cX12_stateOf 62 = .ok (.if_icmp .ne 7, 3) := by decide +kernel
theorem dX12_stateOf_65 : decode cX12_stateOf 65 = .ok (.iconst 1, 1) := by decide +kernel
theorem dX12_stateOf_66 : decode cX12_stateOf 66 = .ok (.goto 4, 3) := by decide +kernel
theorem dX12_stateOf_69 : decode cX12_stateOf 69 = .ok (.iconst 0, 1) := by decide +kernel
theorem dX12_stateOf_70 : decode cX12_stateOf 70 = .ok (.istore 4, 2) := by decide +kernel
theorem dX12_stateOf_72 : decode cX12_stateOf 72 = .ok (.iinc 5 1, 3) := by decide +kernel
theorem dX12_stateOf_75 : decode cX12_stateOf 75 = .ok (.goto (-55), 3) := by decide +kernel
theorem dX12_stateOf_78 : decode cX12_stateOf 78 = .ok (.iload 4, 2) := by decide +kernel
theorem dX12_stateOf_80 : decode cX12_stateOf 80 = .ok (.ifCond .ne 22, 3) := by decide +kernel
theorem dX12_stateOf_83 : decode cX12_stateOf 83 = .ok (.aload_n 0, 1) := by decide +kernel
theorem dX12_stateOf_84 : decode cX12_stateOf 84 = .ok (.getfield 33, 3) := by decide +kernel
theorem dX12_stateOf_87 : decode cX12_stateOf 87 = .ok (.aload_n 0, 1) := by decide +kernel
theorem dX12_stateOf_88 : decode cX12_stateOf 88 = .ok (.getfield 283, 3) := by decide +kernel
theorem dX12_stateOf_91 : decode cX12_stateOf 91 = .ok (.iaload, 1) := by decide +kernel
theorem dX12_stateOf_92 : decode cX12_stateOf 92 = .ok (.iload_n 3, 1) := by decide +kernel
theorem dX12_stateOf_93 : decode cX12_stateOf 93 = .ok (.ishr, 1) := by decide +kernel
theorem dX12_stateOf_94 : decode cX12_stateOf 94 = .ok (.iconst 1, 1) := by decide +kernel
theorem dX12_stateOf_95 : decode cX12_stateOf 95 = .ok (.iand, 1) := by decide +kernel
theorem dX12_stateOf_96 : decode cX12_stateOf 96 = .ok (.iconst 1, 1) := by decide +kernel
theorem dX12_stateOf_97 : decode cX12_stateOf 97 = .ok (.if_icmp .ne 5, 3) := by decide +kernel
theorem dX12_stateOf_100 : decode cX12_stateOf 100 = .ok (.iload_n 3, 1) := by decide +kernel
theorem dX12_stateOf_101 : decode cX12_stateOf 101 = .ok (.ireturn, 1) := by decide +kernel
theorem dX12_stateOf_102 : decode cX12_stateOf 102 = .ok (.goto 28, 3) := by decide +kernel
theorem dX12_stateOf_105 : decode cX12_stateOf 105 = .ok (.aload_n 0, 1) := by decide +kernel
theorem dX12_stateOf_106 : decode cX12_stateOf 106 = .ok (.aload_n 0, 1) := by decide +kernel
theorem dX12_stateOf_107 : decode cX12_stateOf 107 = .ok (.getfield 289, 3) := by decide +kernel
theorem dX12_stateOf_110 : decode cX12_stateOf 110 = .ok (.iload_n 1, 1) := by decide +kernel
theorem dX12_stateOf_111 : decode cX12_stateOf 111 = .ok (.iload_n 3, 1) := by decide +kernel
theorem dX12_stateOf_112 : decode cX12_stateOf 112 = .ok (.invokevirtual 292, 3) := by decide +kernel
theorem dX12_stateOf_115 : decode cX12_stateOf 115 = .ok (.aload_n 0, 1) := by decide +kernel
theorem dX12_stateOf_116 : decode cX12_stateOf 116 = .ok (.aload_n 0, 1) := by decide +kernel
theorem dX12_stateOf_117 : decode cX12_stateOf 117 = .ok (.getfield 296, 3) := by decide +kernel
theorem dX12_stateOf_120 : decode cX12_stateOf 120 = .ok (.iload_n 2, 1) := by decide +kernel
theorem dX12_stateOf_121 : decode cX12_stateOf 121 = .ok (.iload_n 3, 1) := by decide +kernel
theorem dX12_stateOf_122 : decode cX12_stateOf 122 = .ok (.invokevirtual 292, 3) := by decide +kernel
theorem dX12_stateOf_125 : decode cX12_stateOf 125 = .ok (.if_icmp .eq 5, 3) := by decide +kernel
theorem dX12_stateOf_128 : decode cX12_stateOf 128 = .ok (.iload_n 3, 1) := by decide +kernel
theorem dX12_stateOf_129 : decode cX12_stateOf 129 = .ok (.ireturn, 1) := by decide +kernel
theorem dX12_stateOf_130 : decode cX12_stateOf 130 = .ok (.iinc 3 1, 3) := by decide +kernel
theorem dX12_stateOf_133 : decode cX12_stateOf 133 = .ok (.goto (-131), 3) := by decide +kernel
theorem dX12_stateOf_136 : decode cX12_stateOf 136 = .ok (.iconst (-1), 1) := by decide +kernel
theorem dX12_stateOf_137 : decode cX12_stateOf 137 = .ok (.ireturn, 1) := by decide +kernel
theorem e_X12_stateOf_20 {X : gk_X} {F : Nat} {k2 : Nat → Int32 → Int32 → Int32 → gk_S → Option (Int32 × gk_S)} (hk2 : ∀ (l0 : Nat) (l1 : Int32) (l2 : Int32) (l3 : Int32) (S : gk_S) (r : (Int32 × gk_S)), k2 l0 l1 l2 l3 S = some r → EvW X m_X12_stateOf 2 0 0 2 [some (.ref l0), some (.int l1), some (.int l2), some (.int l3), none, none] [] S (qRI r)) : ∀ (n : Nat) (l0 : Nat) (l1 : Int32) (l2 : Int32) (l3 : Int32) (l4 : Int32) (l5 : Int32) (S : gk_S) (r : (Int32 × gk_S)), f_X12_stateOf_20 F k2 n l0 l1 l2 l3 l4 l5 S = some r → EvW X m_X12_stateOf 2 0 0 20 [some (.ref l0), some (.int l1), some (.int l2), some (.int l3), some (.int l4), some (.int l5)] [] S (qRI r) := by
  intro n
  induction n with
  | zero => intro l0 l1 l2 l3 l4 l5 S r h0; rw [f_X12_stateOf_20] at h0; cases h0
  | succ n ih =>
    intro l0 l1 l2 l3 l4 l5 S r h0; rw [f_X12_stateOf_20] at h0
    refine ev_iload (pc := 20) (i := 5) rfl dX12_stateOf_20 ?_
    refine ev_bipush (pc := 22) (v := 16) (by decide) dX12_stateOf_22 ?_
    refine ev_ic_ge (pc := 24) (tgt := 78) (by decide) dX12_stateOf_24 (fun c28 => ?_) (fun c28 => ?_)
    · replace h0 := qi_t h0 c28
      refine ev_iload (pc := 78) (i := 4) rfl dX12_stateOf_78 ?_
      refine ev_if_ne (pc := 80) (tgt := 102) (by decide) dX12_stateOf_80 (fun c30 => ?_) (fun c30 => ?_)
      · replace h0 := qi_f h0 c30
        refine ev_goto (pc := 102) (tgt := 130) (by decide) dX12_stateOf_102 ?_
        refine ev_iinc (pc := 130) (L' := [some (.ref l0), some (.int l1), some (.int l2), some (.int (l3 + 1)), some (.int l4), some (.int l5)]) (i := 3) (v := (l3 + 1)) rfl rfl (by decide) rfl rfl dX12_stateOf_130 ?_
        refine ev_goto (pc := 133) (tgt := 2) (by decide) dX12_stateOf_133 ?_
        exact ev_weak (qL_s (qL_s (qL_s (qL_s (qL_n (qL_n qL_nil)))))) (hk2 _ _ _ _ _ _ h0)
      · replace h0 := qi_t h0 c30
        refine ev_aload_n (pc := 83) (i := 0) rfl rfl rfl dX12_stateOf_83 ?_
        obtain ⟨g32, h33⟩ := qk_el h0; clear h0
        obtain ⟨b34, e35, h36⟩ := qP_el h33; clear h33
        refine xv_getP (pc := 84) fn_908 (isb_el g32) e35 gw_1148 dX12_stateOf_84 ?_
        refine ev_aload_n (pc := 87) (i := 0) rfl rfl rfl dX12_stateOf_87 ?_
        obtain ⟨x37, e38, h39⟩ := qv_el h36; clear h36
        refine xv_getIv (pc := 88) fn_930 (isb_el g32) e38 gw_1170 dX12_stateOf_88 ?_
        obtain ⟨g40, h41⟩ := qk_el h39; clear h39
        obtain ⟨g42, h43⟩ := qk_el h41; clear h41
        obtain ⟨x44, e45, h46⟩ := qv_el h43; clear h43
        refine yv_iald (pc := 91) (isb_el g40) (inb_el g42) e45 dX12_stateOf_91 ?_
        refine ev_iload_n (pc := 92) (i := 3) rfl rfl dX12_stateOf_92 ?_
        refine ev_ishr (pc := 93)  dX12_stateOf_93 ?_
        refine ev_iconst (pc := 94) (v := 1) (by decide) dX12_stateOf_94 ?_
        refine ev_iand (pc := 95)  dX12_stateOf_95 ?_
        refine ev_iconst (pc := 96) (v := 1) (by decide) dX12_stateOf_96 ?_
        refine ev_ic_ne (pc := 97) (tgt := 102) (by decide) dX12_stateOf_97 (fun c47 => ?_) (fun c47 => ?_)
        · replace h46 := qi_f h46 c47
          refine ev_goto (pc := 102) (tgt := 130) (by decide) dX12_stateOf_102 ?_
          refine ev_iinc (pc := 130) (L' := [some (.ref l0), some (.int l1), some (.int l2), some (.int (l3 + 1)), some (.int l4), some (.int l5)]) (i := 3) (v := (l3 + 1)) rfl rfl (by decide) rfl rfl dX12_stateOf_130 ?_
          refine ev_goto (pc := 133) (tgt := 2) (by decide) dX12_stateOf_133 ?_
          exact ev_weak (qL_s (qL_s (qL_s (qL_s (qL_n (qL_n qL_nil)))))) (hk2 _ _ _ _ _ _ h46)
        · replace h46 := qi_t h46 c47
          refine ev_iload_n (pc := 100) (i := 3) rfl rfl dX12_stateOf_100 ?_
          exact ev_ireturn (pc := 101) rfl (nar_int _) (qRI_eq h46) dX12_stateOf_101
    · replace h0 := qi_f h0 c28
      refine ev_iload (pc := 27) (i := 4) rfl dX12_stateOf_27 ?_
      refine ev_if_ne (pc := 29) (tgt := 65) (by decide) dX12_stateOf_29 (fun c49 => ?_) (fun c49 => ?_)
      · replace h0 := qi_f h0 c49
        refine ev_iconst (pc := 65) (v := 1) (by decide) dX12_stateOf_65 ?_
        refine ev_goto (pc := 66) (tgt := 70) (by decide) dX12_stateOf_66 ?_
        refine ev_istore (pc := 70) (L' := [some (.ref l0), some (.int l1), some (.int l2), some (.int l3), some (.int 1), some (.int l5)]) (i := 4) (by decide) rfl rfl dX12_stateOf_70 ?_
        refine ev_iinc (pc := 72) (L' := [some (.ref l0), some (.int l1), some (.int l2), some (.int l3), some (.int 1), some (.int (l5 + 1))]) (i := 5) (v := (l5 + 1)) rfl rfl (by decide) rfl rfl dX12_stateOf_72 ?_
        refine ev_goto (pc := 75) (tgt := 20) (by decide) dX12_stateOf_75 ?_
        exact (ev_weak (qL_s (qL_s (qL_s (qL_s (qL_s (qL_s qL_nil)))))) (ih _ _ _ _ _ _ _ _ h0))
      · replace h0 := qi_t h0 c49
        refine ev_iload_n (pc := 32) (i := 1) rfl rfl dX12_stateOf_32 ?_
        refine ev_iload (pc := 33) (i := 5) rfl dX12_stateOf_33 ?_
        refine ev_ishr (pc := 35)  dX12_stateOf_35 ?_
        refine ev_iconst (pc := 36) (v := 1) (by decide) dX12_stateOf_36 ?_
        refine ev_iand (pc := 37)  dX12_stateOf_37 ?_
        refine ev_iconst (pc := 38) (v := 1) (by decide) dX12_stateOf_38 ?_
        refine ev_ic_ne (pc := 39) (tgt := 69) (by decide) dX12_stateOf_39 (fun c51 => ?_) (fun c51 => ?_)
        · replace h0 := qi_f h0 c51
          refine ev_iconst (pc := 69) (v := 0) (by decide) dX12_stateOf_69 ?_
          refine ev_istore (pc := 70) (L' := [some (.ref l0), some (.int l1), some (.int l2), some (.int l3), some (.int 0), some (.int l5)]) (i := 4) (by decide) rfl rfl dX12_stateOf_70 ?_
          refine ev_iinc (pc := 72) (L' := [some (.ref l0), some (.int l1), some (.int l2), some (.int l3), some (.int 0), some (.int (l5 + 1))]) (i := 5) (v := (l5 + 1)) rfl rfl (by decide) rfl rfl dX12_stateOf_72 ?_
          refine ev_goto (pc := 75) (tgt := 20) (by decide) dX12_stateOf_75 ?_
          exact (ev_weak (qL_s (qL_s (qL_s (qL_s (qL_s (qL_s qL_nil)))))) (ih _ _ _ _ _ _ _ _ h0))
        · replace h0 := qi_t h0 c51
          refine ev_aload_n (pc := 42) (i := 0) rfl rfl rfl dX12_stateOf_42 ?_
          obtain ⟨g53, h54⟩ := qk_el h0; clear h0
          obtain ⟨b55, e56, h57⟩ := qP_el h54; clear h54
          refine xv_getP (pc := 43) fn_908 (isb_el g53) e56 gw_1148 dX12_stateOf_43 ?_
          refine ev_bipush (pc := 46) (v := 16) (by decide) dX12_stateOf_46 ?_
          refine ev_aload_n (pc := 48) (i := 0) rfl rfl rfl dX12_stateOf_48 ?_
          obtain ⟨x58, e59, h60⟩ := qv_el h57; clear h57
          refine xv_getIv (pc := 49) fn_926 (isb_el g53) e59 gw_1166 dX12_stateOf_49 ?_
          refine ev_imul (pc := 52)  dX12_stateOf_52 ?_
          refine ev_iload (pc := 53) (i := 5) rfl dX12_stateOf_53 ?_
          refine ev_iadd (pc := 55)  dX12_stateOf_55 ?_
          obtain ⟨g61, h62⟩ := qk_el h60; clear h60
          obtain ⟨g63, h64⟩ := qk_el h62; clear h62
          obtain ⟨x65, e66, h67⟩ := qv_el h64; clear h64
          refine yv_iald (pc := 56) (isb_el g61) (inb_el g63) e66 dX12_stateOf_56 ?_
          refine ev_iload_n (pc := 57) (i := 3) rfl rfl dX12_stateOf_57 ?_
          refine ev_ishr (pc := 58)  dX12_stateOf_58 ?_
          refine ev_iconst (pc := 59) (v := 1) (by decide) dX12_stateOf_59 ?_
          refine ev_iand (pc := 60)  dX12_stateOf_60 ?_
          refine ev_iconst (pc := 61) (v := 1) (by decide) dX12_stateOf_61 ?_
          refine ev_ic_ne (pc := 62) (tgt := 69) (by decide) dX12_stateOf_62 (fun c68 => ?_) (fun c68 => ?_)
          · replace h67 := qi_f h67 c68
            refine ev_iconst (pc := 69) (v := 0) (by decide) dX12_stateOf_69 ?_
            refine ev_istore (pc := 70) (L' := [some (.ref l0), some (.int l1), some (.int l2), some (.int l3), some (.int 0), some (.int l5)]) (i := 4) (by decide) rfl rfl dX12_stateOf_70 ?_
            refine ev_iinc (pc := 72) (L' := [some (.ref l0), some (.int l1), some (.int l2), some (.int l3), some (.int 0), some (.int (l5 + 1))]) (i := 5) (v := (l5 + 1)) rfl rfl (by decide) rfl rfl dX12_stateOf_72 ?_
            refine ev_goto (pc := 75) (tgt := 20) (by decide) dX12_stateOf_75 ?_
            exact (ev_weak (qL_s (qL_s (qL_s (qL_s (qL_s (qL_s qL_nil)))))) (ih _ _ _ _ _ _ _ _ h67))
          · replace h67 := qi_t h67 c68
            refine ev_iconst (pc := 65) (v := 1) (by decide) dX12_stateOf_65 ?_
            refine ev_goto (pc := 66) (tgt := 70) (by decide) dX12_stateOf_66 ?_
            refine ev_istore (pc := 70) (L' := [some (.ref l0), some (.int l1), some (.int l2), some (.int l3), some (.int 1), some (.int l5)]) (i := 4) (by decide) rfl rfl dX12_stateOf_70 ?_
            refine ev_iinc (pc := 72) (L' := [some (.ref l0), some (.int l1), some (.int l2), some (.int l3), some (.int 1), some (.int (l5 + 1))]) (i := 5) (v := (l5 + 1)) rfl rfl (by decide) rfl rfl dX12_stateOf_72 ?_
            refine ev_goto (pc := 75) (tgt := 20) (by decide) dX12_stateOf_75 ?_
            exact (ev_weak (qL_s (qL_s (qL_s (qL_s (qL_s (qL_s qL_nil)))))) (ih _ _ _ _ _ _ _ _ h67))
theorem e_X12_stateOf_2 {X : gk_X} {F : Nat} : ∀ (n : Nat) (l0 : Nat) (l1 : Int32) (l2 : Int32) (l3 : Int32) (S : gk_S) (r : (Int32 × gk_S)), f_X12_stateOf_2 F n l0 l1 l2 l3 S = some r → EvW X m_X12_stateOf 2 0 0 2 [some (.ref l0), some (.int l1), some (.int l2), some (.int l3), none, none] [] S (qRI r) := by
  intro n
  induction n with
  | zero => intro l0 l1 l2 l3 S r h0; rw [f_X12_stateOf_2] at h0; cases h0
  | succ n ih =>
    intro l0 l1 l2 l3 S r h0; rw [f_X12_stateOf_2] at h0
    refine ev_iload_n (pc := 2) (i := 3) rfl rfl dX12_stateOf_2 ?_
    refine ev_iconst (pc := 3) (v := 4) (by decide) dX12_stateOf_3 ?_
    refine ev_ic_ge (pc := 4) (tgt := 136) (by decide) dX12_stateOf_4 (fun c1 => ?_) (fun c1 => ?_)
    · replace h0 := qi_t h0 c1
      refine ev_iconst (pc := 136) (v := -1) (by decide) dX12_stateOf_136 ?_
      exact ev_ireturn (pc := 137) rfl (nar_int _) (qRI_eq h0) dX12_stateOf_137
    · replace h0 := qi_f h0 c1
      refine ev_aload_n (pc := 7) (i := 0) rfl rfl rfl dX12_stateOf_7 ?_
      obtain ⟨g3, h4⟩ := qk_el h0; clear h0
      obtain ⟨x5, e6, h7⟩ := qv_el h4; clear h4
      refine xv_getIv (pc := 8) fn_930 (isb_el g3) e6 gw_1170 dX12_stateOf_8 ?_
      refine ev_if_lt (pc := 11) (tgt := 105) (by decide) dX12_stateOf_11 (fun c8 => ?_) (fun c8 => ?_)
      · replace h7 := qi_t h7 c8
        refine ev_aload_n (pc := 105) (i := 0) rfl rfl rfl dX12_stateOf_105 ?_
        refine ev_aload_n (pc := 106) (i := 0) rfl rfl rfl dX12_stateOf_106 ?_
        obtain ⟨x10, e11, h12⟩ := qv_el h7; clear h7
        refine xv_getIv (pc := 107) fn_926 (isb_el g3) e11 gw_1166 dX12_stateOf_107 ?_
        refine ev_iload_n (pc := 110) (i := 1) rfl rfl dX12_stateOf_110 ?_
        refine ev_iload_n (pc := 111) (i := 3) rfl rfl dX12_stateOf_111 ?_
        obtain ⟨x13, S14, e15, h16⟩ := qc_el h12; clear h12
        refine xv_callV (pc := 112) (st := []) (as := [.int x10, .int l1, .int l3]) (v := (some (.int x13))) (S' := S14) ok_X12_actionOf (e_X12_actionOf e15) (isb_el g3) (by decide) rfl (Nat.le_of_ble_eq_true rfl) rfl gw_1484 dX12_stateOf_112 ?_
        refine ev_aload_n (pc := 115) (i := 0) rfl rfl rfl dX12_stateOf_115 ?_
        refine ev_aload_n (pc := 116) (i := 0) rfl rfl rfl dX12_stateOf_116 ?_
        obtain ⟨g17, h18⟩ := qk_el h16; clear h16
        obtain ⟨x19, e20, h21⟩ := qv_el h18; clear h18
        refine xv_getIv (pc := 117) fn_927 (isb_el g17) e20 gw_1167 dX12_stateOf_117 ?_
        refine ev_iload_n (pc := 120) (i := 2) rfl rfl dX12_stateOf_120 ?_
        refine ev_iload_n (pc := 121) (i := 3) rfl rfl dX12_stateOf_121 ?_
        obtain ⟨x22, S23, e24, h25⟩ := qc_el h21; clear h21
        refine xv_callV (pc := 122) (st := [.int x13]) (as := [.int x19, .int l2, .int l3]) (v := (some (.int x22))) (S' := S23) ok_X12_actionOf (e_X12_actionOf e24) (isb_el g17) (by decide) rfl (Nat.le_of_ble_eq_true rfl) rfl gw_1484 dX12_stateOf_122 ?_
        refine ev_ic_eq (pc := 125) (tgt := 130) (by decide) dX12_stateOf_125 (fun c26 => ?_) (fun c26 => ?_)
        · replace h25 := qi_t h25 c26
          refine ev_iinc (pc := 130) (L' := [some (.ref l0), some (.int l1), some (.int l2), some (.int (l3 + 1)), none, none]) (i := 3) (v := (l3 + 1)) rfl rfl (by decide) rfl rfl dX12_stateOf_130 ?_
          refine ev_goto (pc := 133) (tgt := 2) (by decide) dX12_stateOf_133 ?_
          exact (ev_weak (qL_s (qL_s (qL_s (qL_s (qL_n (qL_n qL_nil)))))) (ih _ _ _ _ _ _ h25))
        · replace h25 := qi_f h25 c26
          refine ev_iload_n (pc := 128) (i := 3) rfl rfl dX12_stateOf_128 ?_
          exact ev_ireturn (pc := 129) rfl (nar_int _) (qRI_eq h25) dX12_stateOf_129
      · replace h7 := qi_f h7 c8
        refine ev_iconst (pc := 14) (v := 0) (by decide) dX12_stateOf_14 ?_
        refine ev_istore (pc := 15) (L' := [some (.ref l0), some (.int l1), some (.int l2), some (.int l3), some (.int 0), none]) (i := 4) (by decide) rfl rfl dX12_stateOf_15 ?_
        refine ev_iconst (pc := 17) (v := 0) (by decide) dX12_stateOf_17 ?_
        refine ev_istore (pc := 18) (L' := [some (.ref l0), some (.int l1), some (.int l2), some (.int l3), some (.int 0), some (.int 0)]) (i := 5) (by decide) rfl rfl dX12_stateOf_18 ?_
        exact ev_weak (qL_s (qL_s (qL_s (qL_s (qL_s (qL_s qL_nil)))))) (e_X12_stateOf_20 ih F _ _ _ _ _ _ _ _ h7)
theorem e_X12_stateOf {X : gk_X} {F : Nat} {S : gk_S} {a : Nat} {p0 : Int32} {p1 : Int32} {r : (Int32 × gk_S)} (h0 : f_X12_stateOf F S a p0 p1 = some r) : EvM X m_X12_stateOf 2 0 0 [.ref a, .int p0, .int p1] S (qRI r) := by
  unfold f_X12_stateOf at h0
  refine ev_method (by decide +kernel) rfl rfl (Nat.le_of_ble_eq_true rfl) ?_
  show EvW X m_X12_stateOf 2 0 0 0 [some (.ref a), some (.int p0), some (.int p1), none, none, none] [] S _
  refine ev_iconst (pc := 0) (v := 0) (by decide) dX12_stateOf_0 ?_
  refine ev_istore_n (pc := 1) (L' := [some (.ref a), some (.int p0), some (.int p1), some (.int 0), none, none]) (i := 3) rfl (by decide) rfl rfl dX12_stateOf_1 ?_
  exact ev_weak (qL_s (qL_s (qL_s (qL_s (qL_n (qL_n qL_nil)))))) (e_X12_stateOf_2 F _ _ _ _ _ _ h0)
theorem dX12_tells_0 : decode cX12_tells 0 = .ok (.iconst 0, 1) := by decide +kernel
theorem dX12_tells_1 : decode cX12_tells 1 = .ok (.istore 4, 2) := by decide +kernel
theorem dX12_tells_3 : decode cX12_tells 3 = .ok (.iconst 0, 1) := by decide +kernel
theorem dX12_tells_4 : decode cX12_tells 4 = .ok (.istore 5, 2) := by decide +kernel
theorem dX12_tells_6 : decode cX12_tells 6 = .ok (.iconst 0, 1) := by decide +kernel
theorem dX12_tells_7 : decode cX12_tells 7 = .ok (.istore 6, 2) := by decide +kernel
theorem dX12_tells_9 : decode cX12_tells 9 = .ok (.iload 6, 2) := by decide +kernel
theorem dX12_tells_11 : decode cX12_tells 11 = .ok (.bipush 16, 2) := by decide +kernel
theorem dX12_tells_13 : decode cX12_tells 13 = .ok (.if_icmp .ge 67, 3) := by decide +kernel
theorem dX12_tells_16 : decode cX12_tells 16 = .ok (.iload_n 2, 1) := by decide +kernel
theorem dX12_tells_17 : decode cX12_tells 17 = .ok (.iload 6, 2) := by decide +kernel
theorem dX12_tells_19 : decode cX12_tells 19 = .ok (.ishr, 1) := by decide +kernel
theorem dX12_tells_20 : decode cX12_tells 20 = .ok (.iconst 1, 1) := by decide +kernel
theorem dX12_tells_21 : decode cX12_tells 21 = .ok (.iand, 1) := by decide +kernel
theorem dX12_tells_22 : decode cX12_tells 22 = .ok (.ifCond .ne 6, 3) := by decide +kernel
theorem dX12_tells_25 : decode cX12_tells 25 = .ok (.goto 49, 3) := by decide +kernel
theorem dX12_tells_28 : decode cX12_tells 28 = .ok (.iload 4, 2) := by decide +kernel
theorem dX12_tells_30 : decode cX12_tells 30 = .ok (.iconst 1, 1) := by decide +kernel
theorem dX12_tells_31 : decode cX12_tells 31 = .ok (.aload_n 0, 1) := by decide +kernel
theorem dX12_tells_32 : decode cX12_tells 32 = .ok (.getfield 29, 3) := by decide +kernel
theorem dX12_tells_35 : decode cX12_tells 35 = .ok (.bipush 16, 2) := by decide +kernel
theorem dX12_tells_37 : decode cX12_tells 37 = .ok (.iload_n 1, 1) := by decide +kernel
theorem dX12_tells_38 : decode cX12_tells 38 = .ok (.imul, 1) := by decide +kernel
theorem dX12_tells_39 : decode cX12_tells 39 = .ok (.iload 6, 2) := by decide +kernel
theorem dX12_tells_41 : decode cX12_tells 41 = .ok (.iadd, 1) := by decide +kernel
theorem dX12_tells_42 : decode cX12_tells 42 = .ok (.iaload, 1) := by decide +kernel
theorem dX12_tells_43 : decode cX12_tells 43 = .ok (.ishl, 1) := by decide +kernel
theorem dX12_tells_44 : decode cX12_tells 44 = .ok (.ior, 1) := by decide +kernel
theorem dX12_tells_45 : decode cX12_tells 45 = .ok (.istore 4, 2) := by decide +kernel
theorem dX12_tells_47 : decode cX12_tells 47 = .ok (.iload 5, 2) := by decide +kernel
theorem dX12_tells_49 : decode cX12_tells 49 = .ok (.ifCond .ne 18, 3) := by decide +kernel
theorem dX12_tells_52 : decode cX12_tells 52 = .ok (.aload_n 0, 1) := by decide +kernel
theorem dX12_tells_53 : decode cX12_tells 53 = .ok (.bipush 16, 2) := by decide +kernel
theorem dX12_tells_55 : decode cX12_tells 55 = .ok (.iload_n 1, 1) := by decide +kernel
theorem dX12_tells_56 : decode cX12_tells 56 = .ok (.imul, 1) := by decide +kernel
theorem dX12_tells_57 : decode cX12_tells 57 = .ok (.iload 6, 2) := by decide +kernel
theorem dX12_tells_59 : decode cX12_tells 59 = .ok (.iadd, 1) := by decide +kernel
theorem dX12_tells_60 : decode cX12_tells 60 = .ok (.iload_n 3, 1) := by decide +kernel
theorem dX12_tells_61 : decode cX12_tells 61 = .ok (.invokevirtual 286, 3) := by decide +kernel
theorem dX12_tells_64 : decode cX12_tells 64 = .ok (.ifCond .eq 7, 3) := by decide +kernel
theorem dX12_tells_67 : decode cX12_tells 67 = .ok (.iconst 1, 1) := by decide +kernel
theorem dX12_tells_68 : decode cX12_tells 68 = .ok (.goto 4, 3) := by decide +kernel
theorem dX12_tells_71 : decode cX12_tells 71 = .ok (.iconst 0, 1) := by decide +kernel
theorem dX12_tells_72 : decode cX12_tells 72 = .ok (.istore 5, 2) := by decide +kernel
theorem dX12_tells_74 : decode cX12_tells 74 = .ok (.iinc 6 1, 3) := by decide +kernel
theorem dX12_tells_77 : decode cX12_tells 77 = .ok (.goto (-68), 3) := by decide +kernel
theorem dX12_tells_80 : decode cX12_tells 80 = .ok (.iload 5, 2) := by decide +kernel
theorem dX12_tells_82 : decode cX12_tells 82 = .ok (.ifCond .eq 8, 3) := by decide +kernel
theorem dX12_tells_85 : decode cX12_tells 85 = .ok (.iload 4, 2) := by decide +kernel
theorem dX12_tells_87 : decode cX12_tells 87 = .ok (.goto 14, 3) := by decide +kernel
theorem dX12_tells_90 : decode cX12_tells 90 = .ok (.iload 4, 2) := by decide +kernel
theorem dX12_tells_92 : decode cX12_tells 92 = .ok (.iconst 1, 1) := by decide +kernel
theorem dX12_tells_93 : decode cX12_tells 93 = .ok (.aload_n 0, 1) := by decide +kernel
theorem dX12_tells_94 : decode cX12_tells 94 = .ok (.getfield 43, 3) := by decide +kernel
theorem dX12_tells_97 : decode cX12_tells 97 = .ok (.iload_n 1, 1) := by decide +kernel
theorem dX12_tells_98 : decode cX12_tells 98 = .ok (.iaload, 1) := by decide +kernel
theorem dX12_tells_99 : decode cX12_tells 99 = .ok (.ishl, 1) := by decide +kernel
theorem dX12_tells_100 : decode cX12_tells 100 = .ok (.ior, 1) := by decide +kernel
theorem dX12_tells_101 : decode cX12_tells 101 = .ok (.ireturn, 1) := by decide +kernel
theorem e_X12_tells_9 {X : gk_X} {F : Nat} : ∀ (n : Nat) (l0 : Nat) (l1 : Int32) (l2 : Int32) (l3 : Int32) (l4 : Int32) (l5 : Int32) (l6 : Int32) (S : gk_S) (r : (Int32 × gk_S)), f_X12_tells_9 F n l0 l1 l2 l3 l4 l5 l6 S = some r → EvW X m_X12_tells 4 0 0 9 [some (.ref l0), some (.int l1), some (.int l2), some (.int l3), some (.int l4), some (.int l5), some (.int l6)] [] S (qRI r) := by
  intro n
  induction n with
  | zero => intro l0 l1 l2 l3 l4 l5 l6 S r h0; rw [f_X12_tells_9] at h0; cases h0
  | succ n ih =>
    intro l0 l1 l2 l3 l4 l5 l6 S r h0; rw [f_X12_tells_9] at h0
    refine ev_iload (pc := 9) (i := 6) rfl dX12_tells_9 ?_
    refine ev_bipush (pc := 11) (v := 16) (by decide) dX12_tells_11 ?_
    refine ev_ic_ge (pc := 13) (tgt := 80) (by decide) dX12_tells_13 (fun c1 => ?_) (fun c1 => ?_)
    · replace h0 := qi_t h0 c1
      refine ev_iload (pc := 80) (i := 5) rfl dX12_tells_80 ?_
      refine ev_if_eq (pc := 82) (tgt := 90) (by decide) dX12_tells_82 (fun c3 => ?_) (fun c3 => ?_)
      · replace h0 := qi_t h0 c3
        refine ev_iload (pc := 90) (i := 4) rfl dX12_tells_90 ?_
        refine ev_iconst (pc := 92) (v := 1) (by decide) dX12_tells_92 ?_
        refine ev_aload_n (pc := 93) (i := 0) rfl rfl rfl dX12_tells_93 ?_
        obtain ⟨g5, h6⟩ := qk_el h0; clear h0
        obtain ⟨b7, e8, h9⟩ := qP_el h6; clear h6
        refine xv_getP (pc := 94) fn_905 (isb_el g5) e8 gw_1145 dX12_tells_94 ?_
        refine ev_iload_n (pc := 97) (i := 1) rfl rfl dX12_tells_97 ?_
        obtain ⟨g10, h11⟩ := qk_el h9; clear h9
        obtain ⟨g12, h13⟩ := qk_el h11; clear h11
        obtain ⟨x14, e15, h16⟩ := qv_el h13; clear h13
        refine yv_iald (pc := 98) (isb_el g10) (inb_el g12) e15 dX12_tells_98 ?_
        refine ev_ishl (pc := 99)  dX12_tells_99 ?_
        refine ev_ior (pc := 100)  dX12_tells_100 ?_
        exact ev_ireturn (pc := 101) rfl (nar_int _) (qRI_eq h16) dX12_tells_101
      · replace h0 := qi_f h0 c3
        refine ev_iload (pc := 85) (i := 4) rfl dX12_tells_85 ?_
        refine ev_goto (pc := 87) (tgt := 101) (by decide) dX12_tells_87 ?_
        exact ev_ireturn (pc := 101) rfl (nar_int _) (qRI_eq h0) dX12_tells_101
    · replace h0 := qi_f h0 c1
      refine ev_iload_n (pc := 16) (i := 2) rfl rfl dX12_tells_16 ?_
      refine ev_iload (pc := 17) (i := 6) rfl dX12_tells_17 ?_
      refine ev_ishr (pc := 19)  dX12_tells_19 ?_
      refine ev_iconst (pc := 20) (v := 1) (by decide) dX12_tells_20 ?_
      refine ev_iand (pc := 21)  dX12_tells_21 ?_
      refine ev_if_ne (pc := 22) (tgt := 28) (by decide) dX12_tells_22 (fun c17 => ?_) (fun c17 => ?_)
      · replace h0 := qi_f h0 c17
        refine ev_iload (pc := 28) (i := 4) rfl dX12_tells_28 ?_
        refine ev_iconst (pc := 30) (v := 1) (by decide) dX12_tells_30 ?_
        refine ev_aload_n (pc := 31) (i := 0) rfl rfl rfl dX12_tells_31 ?_
        obtain ⟨g19, h20⟩ := qk_el h0; clear h0
        obtain ⟨b21, e22, h23⟩ := qP_el h20; clear h20
        refine xv_getP (pc := 32) fn_907 (isb_el g19) e22 gw_1147 dX12_tells_32 ?_
        refine ev_bipush (pc := 35) (v := 16) (by decide) dX12_tells_35 ?_
        refine ev_iload_n (pc := 37) (i := 1) rfl rfl dX12_tells_37 ?_
        refine ev_imul (pc := 38)  dX12_tells_38 ?_
        refine ev_iload (pc := 39) (i := 6) rfl dX12_tells_39 ?_
        refine ev_iadd (pc := 41)  dX12_tells_41 ?_
        obtain ⟨g24, h25⟩ := qk_el h23; clear h23
        obtain ⟨g26, h27⟩ := qk_el h25; clear h25
        obtain ⟨x28, e29, h30⟩ := qv_el h27; clear h27
        refine yv_iald (pc := 42) (isb_el g24) (inb_el g26) e29 dX12_tells_42 ?_
        refine ev_ishl (pc := 43)  dX12_tells_43 ?_
        refine ev_ior (pc := 44)  dX12_tells_44 ?_
        obtain ⟨x31, e32, h33⟩ := qv_el h30; clear h30
        refine xv_top e32 ?_
        refine ev_istore (pc := 45) (L' := [some (.ref l0), some (.int l1), some (.int l2), some (.int l3), some (.int x31), some (.int l5), some (.int l6)]) (i := 4) (by decide) rfl rfl dX12_tells_45 ?_
        refine ev_iload (pc := 47) (i := 5) rfl dX12_tells_47 ?_
        refine ev_if_ne (pc := 49) (tgt := 67) (by decide) dX12_tells_49 (fun c34 => ?_) (fun c34 => ?_)
        · replace h33 := qi_f h33 c34
          refine ev_iconst (pc := 67) (v := 1) (by decide) dX12_tells_67 ?_
          refine ev_goto (pc := 68) (tgt := 72) (by decide) dX12_tells_68 ?_
          refine ev_istore (pc := 72) (L' := [some (.ref l0), some (.int l1), some (.int l2), some (.int l3), some (.int x31), some (.int 1), some (.int l6)]) (i := 5) (by decide) rfl rfl dX12_tells_72 ?_
          refine ev_iinc (pc := 74) (L' := [some (.ref l0), some (.int l1), some (.int l2), some (.int l3), some (.int x31), some (.int 1), some (.int (l6 + 1))]) (i := 6) (v := (l6 + 1)) rfl rfl (by decide) rfl rfl dX12_tells_74 ?_
          refine ev_goto (pc := 77) (tgt := 9) (by decide) dX12_tells_77 ?_
          exact (ev_weak (qL_s (qL_s (qL_s (qL_s (qL_s (qL_s (qL_s qL_nil))))))) (ih _ _ _ _ _ _ _ _ _ h33))
        · replace h33 := qi_t h33 c34
          refine ev_aload_n (pc := 52) (i := 0) rfl rfl rfl dX12_tells_52 ?_
          refine ev_bipush (pc := 53) (v := 16) (by decide) dX12_tells_53 ?_
          refine ev_iload_n (pc := 55) (i := 1) rfl rfl dX12_tells_55 ?_
          refine ev_imul (pc := 56)  dX12_tells_56 ?_
          refine ev_iload (pc := 57) (i := 6) rfl dX12_tells_57 ?_
          refine ev_iadd (pc := 59)  dX12_tells_59 ?_
          refine ev_iload_n (pc := 60) (i := 3) rfl rfl dX12_tells_60 ?_
          obtain ⟨x36, S37, e38, h39⟩ := qc_el h33; clear h33
          refine xv_callV (pc := 61) (st := []) (as := [.int ((16 * l1) + l6), .int l3]) (v := (some (.int x36))) (S' := S37) ok_X12_isAll (e_X12_isAll e38) (isb_el g19) (by decide) rfl (Nat.le_of_ble_eq_true rfl) rfl gw_1464 dX12_tells_61 ?_
          refine ev_if_eq (pc := 64) (tgt := 71) (by decide) dX12_tells_64 (fun c40 => ?_) (fun c40 => ?_)
          · replace h39 := qi_t h39 c40
            refine ev_iconst (pc := 71) (v := 0) (by decide) dX12_tells_71 ?_
            refine ev_istore (pc := 72) (L' := [some (.ref l0), some (.int l1), some (.int l2), some (.int l3), some (.int x31), some (.int 0), some (.int l6)]) (i := 5) (by decide) rfl rfl dX12_tells_72 ?_
            refine ev_iinc (pc := 74) (L' := [some (.ref l0), some (.int l1), some (.int l2), some (.int l3), some (.int x31), some (.int 0), some (.int (l6 + 1))]) (i := 6) (v := (l6 + 1)) rfl rfl (by decide) rfl rfl dX12_tells_74 ?_
            refine ev_goto (pc := 77) (tgt := 9) (by decide) dX12_tells_77 ?_
            exact (ev_weak (qL_s (qL_s (qL_s (qL_s (qL_s (qL_s (qL_s qL_nil))))))) (ih _ _ _ _ _ _ _ _ _ h39))
          · replace h39 := qi_f h39 c40
            refine ev_iconst (pc := 67) (v := 1) (by decide) dX12_tells_67 ?_
            refine ev_goto (pc := 68) (tgt := 72) (by decide) dX12_tells_68 ?_
            refine ev_istore (pc := 72) (L' := [some (.ref l0), some (.int l1), some (.int l2), some (.int l3), some (.int x31), some (.int 1), some (.int l6)]) (i := 5) (by decide) rfl rfl dX12_tells_72 ?_
            refine ev_iinc (pc := 74) (L' := [some (.ref l0), some (.int l1), some (.int l2), some (.int l3), some (.int x31), some (.int 1), some (.int (l6 + 1))]) (i := 6) (v := (l6 + 1)) rfl rfl (by decide) rfl rfl dX12_tells_74 ?_
            refine ev_goto (pc := 77) (tgt := 9) (by decide) dX12_tells_77 ?_
            exact (ev_weak (qL_s (qL_s (qL_s (qL_s (qL_s (qL_s (qL_s qL_nil))))))) (ih _ _ _ _ _ _ _ _ _ h39))
      · replace h0 := qi_t h0 c17
        refine ev_goto (pc := 25) (tgt := 74) (by decide) dX12_tells_25 ?_
        refine ev_iinc (pc := 74) (L' := [some (.ref l0), some (.int l1), some (.int l2), some (.int l3), some (.int l4), some (.int l5), some (.int (l6 + 1))]) (i := 6) (v := (l6 + 1)) rfl rfl (by decide) rfl rfl dX12_tells_74 ?_
        refine ev_goto (pc := 77) (tgt := 9) (by decide) dX12_tells_77 ?_
        exact (ev_weak (qL_s (qL_s (qL_s (qL_s (qL_s (qL_s (qL_s qL_nil))))))) (ih _ _ _ _ _ _ _ _ _ h0))
theorem e_X12_tells {X : gk_X} {F : Nat} {S : gk_S} {a : Nat} {p0 : Int32} {p1 : Int32} {p2 : Int32} {r : (Int32 × gk_S)} (h0 : f_X12_tells F S a p0 p1 p2 = some r) : EvM X m_X12_tells 4 0 0 [.ref a, .int p0, .int p1, .int p2] S (qRI r) := by
  unfold f_X12_tells at h0
  refine ev_method (by decide +kernel) rfl rfl (Nat.le_of_ble_eq_true rfl) ?_
  show EvW X m_X12_tells 4 0 0 0 [some (.ref a), some (.int p0), some (.int p1), some (.int p2), none, none, none] [] S _
  refine ev_iconst (pc := 0) (v := 0) (by decide) dX12_tells_0 ?_
  refine ev_istore (pc := 1) (L' := [some (.ref a), some (.int p0), some (.int p1), some (.int p2), some (.int 0), none, none]) (i := 4) (by decide) rfl rfl dX12_tells_1 ?_
  refine ev_iconst (pc := 3) (v := 0) (by decide) dX12_tells_3 ?_
  refine ev_istore (pc := 4) (L' := [some (.ref a), some (.int p0), some (.int p1), some (.int p2), some (.int 0), some (.int 0), none]) (i := 5) (by decide) rfl rfl dX12_tells_4 ?_
  refine ev_iconst (pc := 6) (v := 0) (by decide) dX12_tells_6 ?_
  refine ev_istore (pc := 7) (L' := [some (.ref a), some (.int p0), some (.int p1), some (.int p2), some (.int 0), some (.int 0), some (.int 0)]) (i := 6) (by decide) rfl rfl dX12_tells_7 ?_
  exact ev_weak (qL_s (qL_s (qL_s (qL_s (qL_s (qL_s (qL_s qL_nil))))))) (e_X12_tells_9 F _ _ _ _ _ _ _ _ _ h0)
theorem dX12_isHopeless_0 : decode cX12_isHopeless 0 = .ok (.aload_n 0, 1) := by decide +kernel
theorem dX12_isHopeless_1 : decode cX12_isHopeless 1 = .ok (.getfield 283, 3) := by decide +kernel
theorem dX12_isHopeless_4 : decode cX12_isHopeless 4 = .ok (.ifCond .lt 51, 3) := by decide +kernel
theorem dX12_isHopeless_7 : decode cX12_isHopeless 7 = .ok (.iconst 0, 1) := by decide +kernel
theorem dX12_isHopeless_8 : decode cX12_isHopeless 8 = .ok (.istore 4, 2) := by decide +kernel
theorem dX12_isHopeless_10 : decode cX12_isHopeless 10 = .ok (.iload 4, 2) := by decide +kernel
theorem dX12_isHopeless_12 : decode cX12_isHopeless 12 = .ok (.bipush 16, 2) := by decide +kernel
theorem dX12_isHopeless_14 : decode cX12_isHopeless 14 = .ok (.if_icmp .ge 39, 3) := by decide +kernel
theorem dX12_isHopeless_17 : decode cX12_isHopeless 17 = .ok (.iload_n 1, 1) := by decide +kernel
theorem dX12_isHopeless_18 : decode cX12_isHopeless 18 = .ok (.iload 4, 2) := by decide +kernel
theorem dX12_isHopeless_20 : decode cX12_isHopeless 20 = .ok (.ishr, 1) := by decide +kernel
theorem dX12_isHopeless_21 : decode cX12_isHopeless 21 = .ok (.iconst 1, 1) := by decide +kernel
theorem dX12_isHopeless_22 : decode cX12_isHopeless 22 = .ok (.iand, 1) := by decide +kernel
theorem dX12_isHopeless_23 : decode cX12_isHopeless 23 = .ok (.iconst 1, 1) := by decide +kernel
theorem dX12_isHopeless_24 : decode cX12_isHopeless 24 = .ok (.if_icmp .ne 23, 3) := by decide +kernel
theorem dX12_isHopeless_27 : decode cX12_isHopeless 27 = .ok (.aload_n 0, 1) := by decide +kernel
theorem dX12_isHopeless_28 : decode cX12_isHopeless 28 = .ok (.bipush 16, 2) := by decide +kernel
theorem dX12_isHopeless_30 : decode cX12_isHopeless 30 = .ok (.aload_n 0, 1) := by decide +kernel
theorem dX12_isHopeless_31 : decode cX12_isHopeless 31 = .ok (.getfield 289, 3) := by decide +kernel
theorem dX12_isHopeless_34 : decode cX12_isHopeless 34 = .ok (.imul, 1) := by decide +kernel
theorem dX12_isHopeless_35 : decode cX12_isHopeless 35 = .ok (.iload 4, 2) := by decide +kernel
theorem dX12_isHopeless_37 : decode cX12_isHopeless 37 = .ok (.iadd, 1) := by decide +kernel
theorem dX12_isHopeless_38 : decode cX12_isHopeless 38 = .ok (.iload_n 3, 1) := by decide +kernel
theorem dX12_isHopeless_39 : decode cX12_isHopeless 39 = .ok (.invokevirtual 286, 3) := by decide +kernel
theorem dX12_isHopeless_42 : decode cX12_isHopeless 42 = .ok (.ifCond .eq 5, 3) := by decide +kernel
theorem dX12_isHopeless_45 : decode cX12_isHopeless 45 = .ok (.iconst 1, 1) := by decide +kernel
theorem dX12_isHopeless_46 : decode cX12_isHopeless 46 = .ok (.ireturn, 1) := by decide +kernel
theorem dX12_isHopeless_47 : decode cX12_isHopeless 47 = .ok (.iinc 4 1, 3) := by decide +kernel
theorem dX12_isHopeless_50 : decode cX12_isHopeless 50 = .ok (.goto (-40), 3) := by decide +kernel
theorem dX12_isHopeless_53 : decode cX12_isHopeless 53 = .ok (.iconst 0, 1) := by decide +kernel
theorem dX12_isHopeless_54 : decode cX12_isHopeless 54 = .ok (.ireturn, 1) := by decide +kernel
theorem dX12_isHopeless_55 : decode cX12_isHopeless 55 = .ok (.aload_n 0, 1) := by decide +kernel
theorem dX12_isHopeless_56 : decode cX12_isHopeless 56 = .ok (.aload_n 0, 1) := by decide +kernel
theorem dX12_isHopeless_57 : decode cX12_isHopeless 57 = .ok (.getfield 289, 3) := by decide +kernel
theorem dX12_isHopeless_60 : decode cX12_isHopeless 60 = .ok (.iload_n 1, 1) := by decide +kernel
theorem dX12_isHopeless_61 : decode cX12_isHopeless 61 = .ok (.iload_n 3, 1) := by decide +kernel
theorem dX12_isHopeless_62 : decode cX12_isHopeless 62 = .ok (.invokevirtual 299, 3) := by decide +kernel
theorem dX12_isHopeless_65 : decode cX12_isHopeless 65 = .ok (.istore 4, 2) := by decide +kernel
theorem dX12_isHopeless_67 : decode cX12_isHopeless 67 = .ok (.iload 4, 2) := by decide +kernel
theorem dX12_isHopeless_69 : decode cX12_isHopeless 69 = .ok (.aload_n 0, 1) := by decide +kernel
theorem dX12_isHopeless_70 : decode cX12_isHopeless 70 = .ok (.aload_n 0, 1) := by decide +kernel
theorem dX12_isHopeless_71 : decode cX12_isHopeless 71 = .ok (.getfield 296, 3) := by decide +kernel
theorem dX12_isHopeless_74 : decode cX12_isHopeless 74 = .ok (.iload_n 2, 1) := by decide +kernel
theorem dX12_isHopeless_75 : decode cX12_isHopeless 75 = .ok (.iload_n 3, 1) := by decide +kernel
theorem dX12_isHopeless_76 : decode cX12_isHopeless 76 = .ok (.invokevirtual 299, 3) := by decide +kernel
theorem dX12_isHopeless_79 : decode cX12_isHopeless 79 = .ok (.if_icmp .ne 17, 3) := by decide +kernel
theorem dX12_isHopeless_82 : decode cX12_isHopeless 82 = .ok (.iload 4, 2) := by decide +kernel
theorem dX12_isHopeless_84 : decode cX12_isHopeless 84 = .ok (.iload 4, 2) := by decide +kernel
theorem dX12_isHopeless_86 : decode cX12_isHopeless 86 = .ok (.iconst 1, 1) := by decide +kernel
theorem dX12_isHopeless_87 : decode cX12_isHopeless 87 = .ok (.isub, 1) := by decide +kernel
theorem dX12_isHopeless_88 : decode cX12_isHopeless 88 = .ok (.iand, 1) := by decide +kernel
theorem dX12_isHopeless_89 : decode cX12_isHopeless 89 = .ok (.ifCond .ne 7, 3) := by decide +kernel
theorem dX12_isHopeless_92 : decode cX12_isHopeless 92 = .ok (.iconst 1, 1) := by decide +kernel
theorem dX12_isHopeless_93 : decode cX12_isHopeless 93 = .ok (.goto 4, 3) := by decide +kernel
theorem dX12_isHopeless_96 : decode cX12_isHopeless 96 = .ok (.iconst 0, 1) := by decide +kernel
theorem dX12_isHopeless_97 : decode cX12_isHopeless 97 = .ok (.ireturn, 1) := by decide +kernel
theorem e_X12_isHopeless_10 {X : gk_X} {F : Nat} : ∀ (n : Nat) (l0 : Nat) (l1 : Int32) (l3 : Int32) (l4 : Int32) (S : gk_S) (r : (Int32 × gk_S)), f_X12_isHopeless_10 F n l0 l1 l3 l4 S = some r → EvW X m_X12_isHopeless 5 0 0 10 [some (.ref l0), some (.int l1), none, some (.int l3), some (.int l4)] [] S (qRI r) := by
  intro n
  induction n with
  | zero => intro l0 l1 l3 l4 S r h0; rw [f_X12_isHopeless_10] at h0; cases h0
  | succ n ih =>
    intro l0 l1 l3 l4 S r h0; rw [f_X12_isHopeless_10] at h0
    refine ev_iload (pc := 10) (i := 4) rfl dX12_isHopeless_10 ?_
    refine ev_bipush (pc := 12) (v := 16) (by decide) dX12_isHopeless_12 ?_
    refine ev_ic_ge (pc := 14) (tgt := 53) (by decide) dX12_isHopeless_14 (fun c28 => ?_) (fun c28 => ?_)
    · replace h0 := qi_t h0 c28
      refine ev_iconst (pc := 53) (v := 0) (by decide) dX12_isHopeless_53 ?_
      exact ev_ireturn (pc := 54) rfl rfl (qRI_eq h0) dX12_isHopeless_54
    · replace h0 := qi_f h0 c28
      refine ev_iload_n (pc := 17) (i := 1) rfl rfl dX12_isHopeless_17 ?_
      refine ev_iload (pc := 18) (i := 4) rfl dX12_isHopeless_18 ?_
      refine ev_ishr (pc := 20)  dX12_isHopeless_20 ?_
      refine ev_iconst (pc := 21) (v := 1) (by decide) dX12_isHopeless_21 ?_
      refine ev_iand (pc := 22)  dX12_isHopeless_22 ?_
      refine ev_iconst (pc := 23) (v := 1) (by decide) dX12_isHopeless_23 ?_
      refine ev_ic_ne (pc := 24) (tgt := 47) (by decide) dX12_isHopeless_24 (fun c30 => ?_) (fun c30 => ?_)
      · replace h0 := qi_f h0 c30
        refine ev_iinc (pc := 47) (L' := [some (.ref l0), some (.int l1), none, some (.int l3), some (.int (l4 + 1))]) (i := 4) (v := (l4 + 1)) rfl rfl (by decide) rfl rfl dX12_isHopeless_47 ?_
        refine ev_goto (pc := 50) (tgt := 10) (by decide) dX12_isHopeless_50 ?_
        exact (ev_weak (qL_s (qL_s (qL_n (qL_s (qL_s qL_nil))))) (ih _ _ _ _ _ _ h0))
      · replace h0 := qi_t h0 c30
        refine ev_aload_n (pc := 27) (i := 0) rfl rfl rfl dX12_isHopeless_27 ?_
        refine ev_bipush (pc := 28) (v := 16) (by decide) dX12_isHopeless_28 ?_
        refine ev_aload_n (pc := 30) (i := 0) rfl rfl rfl dX12_isHopeless_30 ?_
        obtain ⟨g32, h33⟩ := qk_el h0; clear h0
        obtain ⟨x34, e35, h36⟩ := qv_el h33; clear h33
        refine xv_getIv (pc := 31) fn_926 (isb_el g32) e35 gw_1166 dX12_isHopeless_31 ?_
        refine ev_imul (pc := 34)  dX12_isHopeless_34 ?_
        refine ev_iload (pc := 35) (i := 4) rfl dX12_isHopeless_35 ?_
        refine ev_iadd (pc := 37)  dX12_isHopeless_37 ?_
        refine ev_iload_n (pc := 38) (i := 3) rfl rfl dX12_isHopeless_38 ?_
        obtain ⟨x37, S38, e39, h40⟩ := qc_el h36; clear h36
        refine xv_callV (pc := 39) (st := []) (as := [.int ((16 * x34) + l4), .int l3]) (v := (some (.int x37))) (S' := S38) ok_X12_isAll (e_X12_isAll e39) (isb_el g32) (by decide) rfl (Nat.le_of_ble_eq_true rfl) rfl gw_1464 dX12_isHopeless_39 ?_
        refine ev_if_eq (pc := 42) (tgt := 47) (by decide) dX12_isHopeless_42 (fun c41 => ?_) (fun c41 => ?_)
        · replace h40 := qi_t h40 c41
          refine ev_iinc (pc := 47) (L' := [some (.ref l0), some (.int l1), none, some (.int l3), some (.int (l4 + 1))]) (i := 4) (v := (l4 + 1)) rfl rfl (by decide) rfl rfl dX12_isHopeless_47 ?_
          refine ev_goto (pc := 50) (tgt := 10) (by decide) dX12_isHopeless_50 ?_
          exact (ev_weak (qL_s (qL_s (qL_n (qL_s (qL_s qL_nil))))) (ih _ _ _ _ _ _ h40))
        · replace h40 := qi_f h40 c41
          refine ev_iconst (pc := 45) (v := 1) (by decide) dX12_isHopeless_45 ?_
          exact ev_ireturn (pc := 46) rfl rfl (qRI_eq h40) dX12_isHopeless_46
theorem e_X12_isHopeless {X : gk_X} {F : Nat} {S : gk_S} {a : Nat} {p0 : Int32} {p1 : Int32} {p2 : Int32} {r : (Int32 × gk_S)} (h0 : f_X12_isHopeless F S a p0 p1 p2 = some r) : EvM X m_X12_isHopeless 5 0 0 [.ref a, .int p0, .int p1, .int p2] S (qRI r) := by
  unfold f_X12_isHopeless at h0
  refine ev_method (by decide +kernel) rfl rfl (Nat.le_of_ble_eq_true rfl) ?_
  show EvW X m_X12_isHopeless 5 0 0 0 [some (.ref a), some (.int p0), some (.int p1), some (.int p2), none] [] S _
  refine ev_aload_n (pc := 0) (i := 0) rfl rfl rfl dX12_isHopeless_0 ?_
  obtain ⟨g1, h2⟩ := qk_el h0; clear h0
  obtain ⟨x3, e4, h5⟩ := qv_el h2; clear h2
  refine xv_getIv (pc := 1) fn_930 (isb_el g1) e4 gw_1170 dX12_isHopeless_1 ?_
  refine ev_if_lt (pc := 4) (tgt := 55) (by decide) dX12_isHopeless_4 (fun c6 => ?_) (fun c6 => ?_)
  · replace h5 := qi_t h5 c6
    refine ev_aload_n (pc := 55) (i := 0) rfl rfl rfl dX12_isHopeless_55 ?_
    refine ev_aload_n (pc := 56) (i := 0) rfl rfl rfl dX12_isHopeless_56 ?_
    obtain ⟨x8, e9, h10⟩ := qv_el h5; clear h5
    refine xv_getIv (pc := 57) fn_926 (isb_el g1) e9 gw_1166 dX12_isHopeless_57 ?_
    refine ev_iload_n (pc := 60) (i := 1) rfl rfl dX12_isHopeless_60 ?_
    refine ev_iload_n (pc := 61) (i := 3) rfl rfl dX12_isHopeless_61 ?_
    obtain ⟨x11, S12, e13, h14⟩ := qc_el h10; clear h10
    refine xv_callV (pc := 62) (st := []) (as := [.int x8, .int p0, .int p2]) (v := (some (.int x11))) (S' := S12) ok_X12_tells (e_X12_tells e13) (isb_el g1) (by decide) rfl (Nat.le_of_ble_eq_true rfl) rfl gw_1492 dX12_isHopeless_62 ?_
    refine ev_istore (pc := 65) (L' := [some (.ref a), some (.int p0), some (.int p1), some (.int p2), some (.int x11)]) (i := 4) (by decide) rfl rfl dX12_isHopeless_65 ?_
    refine ev_iload (pc := 67) (i := 4) rfl dX12_isHopeless_67 ?_
    refine ev_aload_n (pc := 69) (i := 0) rfl rfl rfl dX12_isHopeless_69 ?_
    refine ev_aload_n (pc := 70) (i := 0) rfl rfl rfl dX12_isHopeless_70 ?_
    obtain ⟨g15, h16⟩ := qk_el h14; clear h14
    obtain ⟨x17, e18, h19⟩ := qv_el h16; clear h16
    refine xv_getIv (pc := 71) fn_927 (isb_el g15) e18 gw_1167 dX12_isHopeless_71 ?_
    refine ev_iload_n (pc := 74) (i := 2) rfl rfl dX12_isHopeless_74 ?_
    refine ev_iload_n (pc := 75) (i := 3) rfl rfl dX12_isHopeless_75 ?_
    obtain ⟨x20, S21, e22, h23⟩ := qc_el h19; clear h19
    refine xv_callV (pc := 76) (st := [.int x11]) (as := [.int x17, .int p1, .int p2]) (v := (some (.int x20))) (S' := S21) ok_X12_tells (e_X12_tells e22) (isb_el g15) (by decide) rfl (Nat.le_of_ble_eq_true rfl) rfl gw_1492 dX12_isHopeless_76 ?_
    refine ev_ic_ne (pc := 79) (tgt := 96) (by decide) dX12_isHopeless_79 (fun c24 => ?_) (fun c24 => ?_)
    · replace h23 := qi_f h23 c24
      refine ev_iconst (pc := 96) (v := 0) (by decide) dX12_isHopeless_96 ?_
      exact ev_ireturn (pc := 97) rfl rfl (qRI_eq h23) dX12_isHopeless_97
    · replace h23 := qi_t h23 c24
      refine ev_iload (pc := 82) (i := 4) rfl dX12_isHopeless_82 ?_
      refine ev_iload (pc := 84) (i := 4) rfl dX12_isHopeless_84 ?_
      refine ev_iconst (pc := 86) (v := 1) (by decide) dX12_isHopeless_86 ?_
      refine ev_isub (pc := 87)  dX12_isHopeless_87 ?_
      refine ev_iand (pc := 88)  dX12_isHopeless_88 ?_
      refine ev_if_ne (pc := 89) (tgt := 96) (by decide) dX12_isHopeless_89 (fun c26 => ?_) (fun c26 => ?_)
      · replace h23 := qi_f h23 c26
        refine ev_iconst (pc := 96) (v := 0) (by decide) dX12_isHopeless_96 ?_
        exact ev_ireturn (pc := 97) rfl rfl (qRI_eq h23) dX12_isHopeless_97
      · replace h23 := qi_t h23 c26
        refine ev_iconst (pc := 92) (v := 1) (by decide) dX12_isHopeless_92 ?_
        refine ev_goto (pc := 93) (tgt := 97) (by decide) dX12_isHopeless_93 ?_
        exact ev_ireturn (pc := 97) rfl rfl (qRI_eq h23) dX12_isHopeless_97
  · replace h5 := qi_f h5 c6
    refine ev_iconst (pc := 7) (v := 0) (by decide) dX12_isHopeless_7 ?_
    refine ev_istore (pc := 8) (L' := [some (.ref a), some (.int p0), some (.int p1), some (.int p2), some (.int 0)]) (i := 4) (by decide) rfl rfl dX12_isHopeless_8 ?_
    exact ev_weak (qL_s (qL_s (qL_n (qL_s (qL_s qL_nil))))) (e_X12_isHopeless_10 F _ _ _ _ _ _ h5)
theorem dX12_placeOf_0 : decode cX12_placeOf 0 = .ok (.lload_n 0, 1) := by decide +kernel
theorem dX12_placeOf_1 : decode cX12_placeOf 1 = .ok (.ldc2_w 262, 3) := by decide +kernel
theorem dX12_placeOf_4 : decode cX12_placeOf 4 = .ok (.lmul, 1) := by decide +kernel
theorem dX12_placeOf_5 : decode cX12_placeOf 5 = .ok (.bipush 50, 2) := by decide +kernel
theorem dX12_placeOf_7 : decode cX12_placeOf 7 = .ok (.lushr, 1) := by decide +kernel
theorem dX12_placeOf_8 : decode cX12_placeOf 8 = .ok (.l2i, 1) := by decide +kernel
theorem dX12_placeOf_9 : decode cX12_placeOf 9 = .ok (.ireturn, 1) := by decide +kernel
theorem e_X12_placeOf {X : gk_X} {F : Nat} {S : gk_S} {p0 : Int64} {r : (Int32 × gk_S)} (h0 : f_X12_placeOf F S p0 = some r) : EvM X m_X12_placeOf 1 0 0 [.long p0] S (qRI r) := by
  unfold f_X12_placeOf at h0
  refine ev_method (by decide +kernel) rfl rfl (Nat.le_of_ble_eq_true rfl) ?_
  show EvW X m_X12_placeOf 1 0 0 0 [some (.long p0), none] [] S _
  refine ev_lload_n (pc := 0) (i := 0) rfl rfl dX12_placeOf_0 ?_
  refine ev_ldc2 (pc := 1) (v := -7046029254386353131) gw_1499 dX12_placeOf_1 ?_
  refine ev_lmul (pc := 4)  dX12_placeOf_4 ?_
  refine ev_bipush (pc := 5) (v := 50) (by decide) dX12_placeOf_5 ?_
  refine ev_lushr (pc := 7)  dX12_placeOf_7 ?_
  obtain ⟨x1, e2, h3⟩ := qv_el h0; clear h0
  refine xv_topl e2 ?_
  refine ev_l2i (pc := 8)  dX12_placeOf_8 ?_
  exact ev_ireturn (pc := 9) rfl (nar_int _) (qRI_eq h3) dX12_placeOf_9
theorem dX12_holds_0 : decode cX12_holds 0 = .ok (.aload_n 0, 1) := by decide +kernel
theorem dX12_holds_1 : decode cX12_holds 1 = .ok (.getfield 36, 3) := by decide +kernel
theorem dX12_holds_4 : decode cX12_holds 4 = .ok (.bipush 6, 2) := by decide +kernel
theorem dX12_holds_6 : decode cX12_holds 6 = .ok (.iload_n 1, 1) := by decide +kernel
theorem dX12_holds_7 : decode cX12_holds 7 = .ok (.imul, 1) := by decide +kernel
theorem dX12_holds_8 : decode cX12_holds 8 = .ok (.iload_n 2, 1) := by decide +kernel
theorem dX12_holds_9 : decode cX12_holds 9 = .ok (.iadd, 1) := by decide +kernel
theorem dX12_holds_10 : decode cX12_holds 10 = .ok (.laload, 1) := by decide +kernel
theorem dX12_holds_11 : decode cX12_holds 11 = .ok (.lload_n 3, 1) := by decide +kernel
theorem dX12_holds_12 : decode cX12_holds 12 = .ok (.lcmp, 1) := by decide +kernel
theorem dX12_holds_13 : decode cX12_holds 13 = .ok (.ifCond .gt 23, 3) := by decide +kernel
theorem dX12_holds_16 : decode cX12_holds 16 = .ok (.lload_n 3, 1) := by decide +kernel
theorem dX12_holds_17 : decode cX12_holds 17 = .ok (.aload_n 0, 1) := by decide +kernel
theorem dX12_holds_18 : decode cX12_holds 18 = .ok (.getfield 40, 3) := by decide +kernel
theorem dX12_holds_21 : decode cX12_holds 21 = .ok (.bipush 6, 2) := by decide +kernel
theorem dX12_holds_23 : decode cX12_holds 23 = .ok (.iload_n 1, 1) := by decide +kernel
theorem dX12_holds_24 : decode cX12_holds 24 = .ok (.imul, 1) := by decide +kernel
theorem dX12_holds_25 : decode cX12_holds 25 = .ok (.iload_n 2, 1) := by decide +kernel
theorem dX12_holds_26 : decode cX12_holds 26 = .ok (.iadd, 1) := by decide +kernel
theorem dX12_holds_27 : decode cX12_holds 27 = .ok (.laload, 1) := by decide +kernel
theorem dX12_holds_28 : decode cX12_holds 28 = .ok (.lcmp, 1) := by decide +kernel
theorem dX12_holds_29 : decode cX12_holds 29 = .ok (.ifCond .gt 7, 3) := by decide +kernel
theorem dX12_holds_32 : decode cX12_holds 32 = .ok (.iconst 1, 1) := by decide +kernel
theorem dX12_holds_33 : decode cX12_holds 33 = .ok (.goto 4, 3) := by decide +kernel
theorem dX12_holds_36 : decode cX12_holds 36 = .ok (.iconst 0, 1) := by decide +kernel
theorem dX12_holds_37 : decode cX12_holds 37 = .ok (.ireturn, 1) := by decide +kernel
theorem e_X12_holds {X : gk_X} {F : Nat} {S : gk_S} {a : Nat} {p0 : Int32} {p1 : Int32} {p2 : Int64} {r : (Int32 × gk_S)} (h0 : f_X12_holds F S a p0 p1 p2 = some r) : EvM X m_X12_holds 1 0 0 [.ref a, .int p0, .int p1, .long p2] S (qRI r) := by
  unfold f_X12_holds at h0
  refine ev_method (by decide +kernel) rfl rfl (Nat.le_of_ble_eq_true rfl) ?_
  show EvW X m_X12_holds 1 0 0 0 [some (.ref a), some (.int p0), some (.int p1), some (.long p2), none] [] S _
  refine ev_aload_n (pc := 0) (i := 0) rfl rfl rfl dX12_holds_0 ?_
  obtain ⟨g1, h2⟩ := qk_el h0; clear h0
  obtain ⟨b3, e4, h5⟩ := qP_el h2; clear h2
  refine xv_getP (pc := 1) fn_909 (isb_el g1) e4 gw_1149 dX12_holds_1 ?_
  refine ev_bipush (pc := 4) (v := 6) (by decide) dX12_holds_4 ?_
  refine ev_iload_n (pc := 6) (i := 1) rfl rfl dX12_holds_6 ?_
  refine ev_imul (pc := 7)  dX12_holds_7 ?_
  refine ev_iload_n (pc := 8) (i := 2) rfl rfl dX12_holds_8 ?_
  refine ev_iadd (pc := 9)  dX12_holds_9 ?_
  obtain ⟨g6, h7⟩ := qk_el h5; clear h5
  obtain ⟨g8, h9⟩ := qk_el h7; clear h7
  obtain ⟨x10, e11, h12⟩ := qv_el h9; clear h9
  refine yv_lald (pc := 10) (isb_el g6) (inb_el g8) e11 dX12_holds_10 ?_
  refine ev_lload_n (pc := 11) (i := 3) rfl rfl dX12_holds_11 ?_
  refine ev_lcmp (pc := 12)  dX12_holds_12 ?_
  refine ev_if_gt (pc := 13) (tgt := 36) (by decide) dX12_holds_13 (fun c13 => ?_) (fun c13 => ?_)
  · replace h12 := qi_t h12 (lc_gt c13)
    refine ev_iconst (pc := 36) (v := 0) (by decide) dX12_holds_36 ?_
    exact ev_ireturn (pc := 37) rfl rfl (qRI_eq h12) dX12_holds_37
  · replace h12 := qi_f h12 (lc_gtN c13)
    refine ev_lload_n (pc := 16) (i := 3) rfl rfl dX12_holds_16 ?_
    refine ev_aload_n (pc := 17) (i := 0) rfl rfl rfl dX12_holds_17 ?_
    obtain ⟨b15, e16, h17⟩ := qP_el h12; clear h12
    refine xv_getP (pc := 18) fn_910 (isb_el g1) e16 gw_1150 dX12_holds_18 ?_
    refine ev_bipush (pc := 21) (v := 6) (by decide) dX12_holds_21 ?_
    refine ev_iload_n (pc := 23) (i := 1) rfl rfl dX12_holds_23 ?_
    refine ev_imul (pc := 24)  dX12_holds_24 ?_
    refine ev_iload_n (pc := 25) (i := 2) rfl rfl dX12_holds_25 ?_
    refine ev_iadd (pc := 26)  dX12_holds_26 ?_
    obtain ⟨g18, h19⟩ := qk_el h17; clear h17
    obtain ⟨g20, h21⟩ := qk_el h19; clear h19
    obtain ⟨x22, e23, h24⟩ := qv_el h21; clear h21
    refine yv_lald (pc := 27) (isb_el g18) (inb_el g20) e23 dX12_holds_27 ?_
    refine ev_lcmp (pc := 28)  dX12_holds_28 ?_
    refine ev_if_gt (pc := 29) (tgt := 36) (by decide) dX12_holds_29 (fun c25 => ?_) (fun c25 => ?_)
    · replace h24 := qi_t h24 (lc_gt c25)
      refine ev_iconst (pc := 36) (v := 0) (by decide) dX12_holds_36 ?_
      exact ev_ireturn (pc := 37) rfl rfl (qRI_eq h24) dX12_holds_37
    · replace h24 := qi_f h24 (lc_gtN c25)
      refine ev_iconst (pc := 32) (v := 1) (by decide) dX12_holds_32 ?_
      refine ev_goto (pc := 33) (tgt := 37) (by decide) dX12_holds_33 ?_
      exact ev_ireturn (pc := 37) rfl rfl (qRI_eq h24) dX12_holds_37
theorem dX12_left_0 : decode cX12_left 0 = .ok (.iconst 0, 1) := by decide +kernel
theorem dX12_left_1 : decode cX12_left 1 = .ok (.istore 6, 2) := by decide +kernel
theorem dX12_left_3 : decode cX12_left 3 = .ok (.iconst 0, 1) := by decide +kernel
theorem dX12_left_4 : decode cX12_left 4 = .ok (.istore 7, 2) := by decide +kernel
theorem dX12_left_6 : decode cX12_left 6 = .ok (.iload 7, 2) := by decide +kernel
theorem dX12_left_8 : decode cX12_left 8 = .ok (.bipush 16, 2) := by decide +kernel
theorem dX12_left_10 : decode cX12_left 10 = .ok (.if_icmp .ge 45, 3) := by decide +kernel
theorem dX12_left_13 : decode cX12_left 13 = .ok (.iload_n 2, 1) := by decide +kernel
theorem dX12_left_14 : decode cX12_left 14 = .ok (.iload 7, 2) := by decide +kernel
theorem dX12_left_16 : decode cX12_left 16 = .ok (.ishr, 1) := by decide +kernel
theorem dX12_left_17 : decode cX12_left 17 = .ok (.iconst 1, 1) := by decide +kernel
theorem dX12_left_18 : decode cX12_left 18 = .ok (.iand, 1) := by decide +kernel
theorem dX12_left_19 : decode cX12_left 19 = .ok (.iconst 1, 1) := by decide +kernel
theorem dX12_left_20 : decode cX12_left 20 = .ok (.if_icmp .ne 29, 3) := by decide +kernel
theorem dX12_left_23 : decode cX12_left 23 = .ok (.aload_n 0, 1) := by decide +kernel
theorem dX12_left_24 : decode cX12_left 24 = .ok (.bipush 16, 2) := by decide +kernel
theorem dX12_left_26 : decode cX12_left 26 = .ok (.iload_n 1, 1) := by decide +kernel
theorem dX12_left_27 : decode cX12_left 27 = .ok (.imul, 1) := by decide +kernel
theorem dX12_left_28 : decode cX12_left 28 = .ok (.iload 7, 2) := by decide +kernel
theorem dX12_left_30 : decode cX12_left 30 = .ok (.iadd, 1) := by decide +kernel
theorem dX12_left_31 : decode cX12_left 31 = .ok (.iload_n 3, 1) := by decide +kernel
theorem dX12_left_32 : decode cX12_left 32 = .ok (.lload 4, 2) := by decide +kernel
theorem dX12_left_34 : decode cX12_left 34 = .ok (.invokevirtual 264, 3) := by decide +kernel
theorem dX12_left_37 : decode cX12_left 37 = .ok (.ifCond .eq 12, 3) := by decide +kernel
theorem dX12_left_40 : decode cX12_left 40 = .ok (.iload 6, 2) := by decide +kernel
theorem dX12_left_42 : decode cX12_left 42 = .ok (.iconst 1, 1) := by decide +kernel
theorem dX12_left_43 : decode cX12_left 43 = .ok (.iload 7, 2) := by decide +kernel
theorem dX12_left_45 : decode cX12_left 45 = .ok (.ishl, 1) := by decide +kernel
theorem dX12_left_46 : decode cX12_left 46 = .ok (.ior, 1) := by decide +kernel
theorem dX12_left_47 : decode cX12_left 47 = .ok (.istore 6, 2) := by decide +kernel
theorem dX12_left_49 : decode cX12_left 49 = .ok (.iinc 7 1, 3) := by decide +kernel
theorem dX12_left_52 : decode cX12_left 52 = .ok (.goto (-46), 3) := by decide +kernel
theorem dX12_left_55 : decode cX12_left 55 = .ok (.iload 6, 2) := by decide +kernel
theorem dX12_left_57 : decode cX12_left 57 = .ok (.ireturn, 1) := by decide +kernel
theorem e_X12_left_6 {X : gk_X} {F : Nat} : ∀ (n : Nat) (l0 : Nat) (l1 : Int32) (l2 : Int32) (l3 : Int32) (l4 : Int64) (l6 : Int32) (l7 : Int32) (S : gk_S) (r : (Int32 × gk_S)), f_X12_left_6 F n l0 l1 l2 l3 l4 l6 l7 S = some r → EvW X m_X12_left 2 0 0 6 [some (.ref l0), some (.int l1), some (.int l2), some (.int l3), some (.long l4), none, some (.int l6), some (.int l7)] [] S (qRI r) := by
  intro n
  induction n with
  | zero => intro l0 l1 l2 l3 l4 l6 l7 S r h0; rw [f_X12_left_6] at h0; cases h0
  | succ n ih =>
    intro l0 l1 l2 l3 l4 l6 l7 S r h0; rw [f_X12_left_6] at h0
    refine ev_iload (pc := 6) (i := 7) rfl dX12_left_6 ?_
    refine ev_bipush (pc := 8) (v := 16) (by decide) dX12_left_8 ?_
    refine ev_ic_ge (pc := 10) (tgt := 55) (by decide) dX12_left_10 (fun c1 => ?_) (fun c1 => ?_)
    · replace h0 := qi_t h0 c1
      refine ev_iload (pc := 55) (i := 6) rfl dX12_left_55 ?_
      exact ev_ireturn (pc := 57) rfl (nar_int _) (qRI_eq h0) dX12_left_57
    · replace h0 := qi_f h0 c1
      refine ev_iload_n (pc := 13) (i := 2) rfl rfl dX12_left_13 ?_
      refine ev_iload (pc := 14) (i := 7) rfl dX12_left_14 ?_
      refine ev_ishr (pc := 16)  dX12_left_16 ?_
      refine ev_iconst (pc := 17) (v := 1) (by decide) dX12_left_17 ?_
      refine ev_iand (pc := 18)  dX12_left_18 ?_
      refine ev_iconst (pc := 19) (v := 1) (by decide) dX12_left_19 ?_
      refine ev_ic_ne (pc := 20) (tgt := 49) (by decide) dX12_left_20 (fun c3 => ?_) (fun c3 => ?_)
      · replace h0 := qi_f h0 c3
        refine ev_iinc (pc := 49) (L' := [some (.ref l0), some (.int l1), some (.int l2), some (.int l3), some (.long l4), none, some (.int l6), some (.int (l7 + 1))]) (i := 7) (v := (l7 + 1)) rfl rfl (by decide) rfl rfl dX12_left_49 ?_
        refine ev_goto (pc := 52) (tgt := 6) (by decide) dX12_left_52 ?_
        exact (ev_weak (qL_s (qL_s (qL_s (qL_s (qL_s (qL_n (qL_s (qL_s qL_nil)))))))) (ih _ _ _ _ _ _ _ _ _ h0))
      · replace h0 := qi_t h0 c3
        refine ev_aload_n (pc := 23) (i := 0) rfl rfl rfl dX12_left_23 ?_
        refine ev_bipush (pc := 24) (v := 16) (by decide) dX12_left_24 ?_
        refine ev_iload_n (pc := 26) (i := 1) rfl rfl dX12_left_26 ?_
        refine ev_imul (pc := 27)  dX12_left_27 ?_
        refine ev_iload (pc := 28) (i := 7) rfl dX12_left_28 ?_
        refine ev_iadd (pc := 30)  dX12_left_30 ?_
        refine ev_iload_n (pc := 31) (i := 3) rfl rfl dX12_left_31 ?_
        refine ev_lload (pc := 32) (i := 4) rfl dX12_left_32 ?_
        obtain ⟨g5, h6⟩ := qk_el h0; clear h0
        obtain ⟨x7, S8, e9, h10⟩ := qc_el h6; clear h6
        refine xv_callV (pc := 34) (st := []) (as := [.int ((16 * l1) + l7), .int l3, .long l4]) (v := (some (.int x7))) (S' := S8) ok_X12_holds (e_X12_holds e9) (isb_el g5) (by decide) rfl (Nat.le_of_ble_eq_true rfl) rfl gw_1504 dX12_left_34 ?_
        refine ev_if_eq (pc := 37) (tgt := 49) (by decide) dX12_left_37 (fun c11 => ?_) (fun c11 => ?_)
        · replace h10 := qi_t h10 c11
          refine ev_iinc (pc := 49) (L' := [some (.ref l0), some (.int l1), some (.int l2), some (.int l3), some (.long l4), none, some (.int l6), some (.int (l7 + 1))]) (i := 7) (v := (l7 + 1)) rfl rfl (by decide) rfl rfl dX12_left_49 ?_
          refine ev_goto (pc := 52) (tgt := 6) (by decide) dX12_left_52 ?_
          exact (ev_weak (qL_s (qL_s (qL_s (qL_s (qL_s (qL_n (qL_s (qL_s qL_nil)))))))) (ih _ _ _ _ _ _ _ _ _ h10))
        · replace h10 := qi_f h10 c11
          refine ev_iload (pc := 40) (i := 6) rfl dX12_left_40 ?_
          refine ev_iconst (pc := 42) (v := 1) (by decide) dX12_left_42 ?_
          refine ev_iload (pc := 43) (i := 7) rfl dX12_left_43 ?_
          refine ev_ishl (pc := 45)  dX12_left_45 ?_
          refine ev_ior (pc := 46)  dX12_left_46 ?_
          obtain ⟨x13, e14, h15⟩ := qv_el h10; clear h10
          refine xv_top e14 ?_
          refine ev_istore (pc := 47) (L' := [some (.ref l0), some (.int l1), some (.int l2), some (.int l3), some (.long l4), none, some (.int x13), some (.int l7)]) (i := 6) (by decide) rfl rfl dX12_left_47 ?_
          refine ev_iinc (pc := 49) (L' := [some (.ref l0), some (.int l1), some (.int l2), some (.int l3), some (.long l4), none, some (.int x13), some (.int (l7 + 1))]) (i := 7) (v := (l7 + 1)) rfl rfl (by decide) rfl rfl dX12_left_49 ?_
          refine ev_goto (pc := 52) (tgt := 6) (by decide) dX12_left_52 ?_
          exact (ev_weak (qL_s (qL_s (qL_s (qL_s (qL_s (qL_n (qL_s (qL_s qL_nil)))))))) (ih _ _ _ _ _ _ _ _ _ h15))
theorem e_X12_left {X : gk_X} {F : Nat} {S : gk_S} {a : Nat} {p0 : Int32} {p1 : Int32} {p2 : Int32} {p3 : Int64} {r : (Int32 × gk_S)} (h0 : f_X12_left F S a p0 p1 p2 p3 = some r) : EvM X m_X12_left 2 0 0 [.ref a, .int p0, .int p1, .int p2, .long p3] S (qRI r) := by
  unfold f_X12_left at h0
  refine ev_method (by decide +kernel) rfl rfl (Nat.le_of_ble_eq_true rfl) ?_
  show EvW X m_X12_left 2 0 0 0 [some (.ref a), some (.int p0), some (.int p1), some (.int p2), some (.long p3), none, none, none] [] S _
  refine ev_iconst (pc := 0) (v := 0) (by decide) dX12_left_0 ?_
  refine ev_istore (pc := 1) (L' := [some (.ref a), some (.int p0), some (.int p1), some (.int p2), some (.long p3), none, some (.int 0), none]) (i := 6) (by decide) rfl rfl dX12_left_1 ?_
  refine ev_iconst (pc := 3) (v := 0) (by decide) dX12_left_3 ?_
  refine ev_istore (pc := 4) (L' := [some (.ref a), some (.int p0), some (.int p1), some (.int p2), some (.long p3), none, some (.int 0), some (.int 0)]) (i := 7) (by decide) rfl rfl dX12_left_4 ?_
  exact ev_weak (qL_s (qL_s (qL_s (qL_s (qL_s (qL_n (qL_s (qL_s qL_nil)))))))) (e_X12_left_6 F _ _ _ _ _ _ _ _ _ h0)
theorem dX12_turn_0 : decode cX12_turn 0 = .ok (.lload 6, 2) := by decide +kernel
theorem dX12_turn_2 : decode cX12_turn 2 = .ok (.lstore 8, 2) := by decide +kernel
theorem dX12_turn_4 : decode cX12_turn 4 = .ok (.iconst 0, 1) := by decide +kernel
theorem dX12_turn_5 : decode cX12_turn 5 = .ok (.istore 10, 2) := by decide +kernel
theorem dX12_turn_7 : decode cX12_turn 7 = .ok (.iload 10, 2) := by decide +kernel
theorem dX12_turn_9 : decode cX12_turn 9 = .ok (.bipush 16, 2) := by decide +kernel
theorem dX12_turn_11 : decode cX12_turn 11 = .ok (.if_icmp .ge 91, 3) := by decide +kernel
theorem dX12_turn_14 : decode cX12_turn 14 = .ok (.iload_n 2, 1) := by decide +kernel
theorem dX12_turn_15 : decode cX12_turn 15 = .ok (.iload 10, 2) := by decide +kernel
theorem dX12_turn_17 : decode cX12_turn 17 = .ok (.ishr, 1) := by decide +kernel
theorem dX12_turn_18 : decode cX12_turn 18 = .ok (.iconst 1, 1) := by decide +kernel
theorem dX12_turn_19 : decode cX12_turn 19 = .ok (.iand, 1) := by decide +kernel
theorem dX12_turn_20 : decode cX12_turn 20 = .ok (.ifCond .ne 6, 3) := by decide +kernel
theorem dX12_turn_23 : decode cX12_turn 23 = .ok (.goto 73, 3) := by decide +kernel
theorem dX12_turn_26 : decode cX12_turn 26 = .ok (.bipush 6, 2) := by decide +kernel
theorem dX12_turn_28 : decode cX12_turn 28 = .ok (.bipush 16, 2) := by decide +kernel
theorem dX12_turn_30 : decode cX12_turn 30 = .ok (.iload_n 1, 1) := by decide +kernel
theorem dX12_turn_31 : decode cX12_turn 31 = .ok (.imul, 1) := by decide +kernel
theorem dX12_turn_32 : decode cX12_turn 32 = .ok (.iload 10, 2) := by decide +kernel
theorem dX12_turn_34 : decode cX12_turn 34 = .ok (.iadd, 1) := by decide +kernel
theorem dX12_turn_35 : decode cX12_turn 35 = .ok (.imul, 1) := by decide +kernel
theorem dX12_turn_36 : decode cX12_turn 36 = .ok (.iload_n 3, 1) := by decide +kernel
theorem dX12_turn_37 : decode cX12_turn 37 = .ok (.iadd, 1) := by decide +kernel
theorem dX12_turn_38 : decode cX12_turn 38 = .ok (.istore 11, 2) := by decide +kernel
theorem dX12_turn_40 : decode cX12_turn 40 = .ok (.aload_n 0, 1) := by decide +kernel
theorem dX12_turn_41 : decode cX12_turn 41 = .ok (.getfield 36, 3) := by decide +kernel
theorem dX12_turn_44 : decode cX12_turn 44 = .ok (.iload 11, 2) := by decide +kernel
theorem dX12_turn_46 : decode cX12_turn 46 = .ok (.laload, 1) := by decide +kernel
theorem dX12_turn_47 : decode cX12_turn 47 = .ok (.lload 4, 2) := by decide +kernel
theorem dX12_turn_49 : decode cX12_turn 49 = .ok (.lcmp, 1) := by decide +kernel
theorem dX12_turn_50 : decode cX12_turn 50 = .ok (.ifCond .le 17, 3) := by decide +kernel
theorem dX12_turn_53 : decode cX12_turn 53 = .ok (.lload 8, 2) := by decide +kernel
theorem dX12_turn_55 : decode cX12_turn 55 = .ok (.aload_n 0, 1) := by decide +kernel
theorem dX12_turn_56 : decode cX12_turn 56 = .ok (.getfield 36, 3) := by decide +kernel
theorem dX12_turn_59 : decode cX12_turn 59 = .ok (.iload 11, 2) := by decide +kernel
theorem dX12_turn_61 : decode cX12_turn 61 = .ok (.laload, 1) := by decide +kernel
theorem dX12_turn_62 : decode cX12_turn 62 = .ok (.invokestatic 268, 3) := by decide +kernel
theorem dX12_turn_65 : decode cX12_turn 65 = .ok (.lstore 8, 2) := by decide +kernel
theorem dX12_turn_67 : decode cX12_turn 67 = .ok (.aload_n 0, 1) := by decide +kernel
theorem dX12_turn_68 : decode cX12_turn 68 = .ok (.getfield 40, 3) := by decide +kernel
theorem dX12_turn_71 : decode cX12_turn 71 = .ok (.iload 11, 2) := by decide +kernel
theorem dX12_turn_73 : decode cX12_turn 73 = .ok (.laload, 1) := by decide +kernel
theorem dX12_turn_74 : decode cX12_turn 74 = .ok (.lload 4, 2) := by decide +kernel
theorem dX12_turn_76 : decode cX12_turn 76 = .ok (.lcmp, 1) := by decide +kernel
theorem dX12_turn_77 : decode cX12_turn 77 = .ok (.ifCond .lt 19, 3) := by decide +kernel
theorem dX12_turn_80 : decode cX12_turn 80 = .ok (.lload 8, 2) := by decide +kernel
theorem dX12_turn_82 : decode cX12_turn 82 = .ok (.aload_n 0, 1) := by decide +kernel
theorem dX12_turn_83 : decode cX12_turn 83 = .ok (.getfield 40, 3) := by decide +kernel
theorem dX12_turn_86 : decode cX12_turn 86 = .ok (.iload 11, 2) := by decide +kernel
theorem dX12_turn_88 : decode cX12_turn 88 = .ok (.laload, 1) := by decide +kernel
theorem dX12_turn_89 : decode cX12_turn 89 = .ok (.lconst 1, 1) := by decide +kernel
theorem dX12_turn_90 : decode cX12_turn 90 = .ok (.ladd, 1) := by decide +kernel
theorem dX12_turn_91 : decode cX12_turn 91 = .ok (.invokestatic 268, 3) := by decide +kernel
theorem dX12_turn_94 : decode cX12_turn 94 = .ok (.lstore 8, 2) := by decide +kernel
theorem dX12_turn_96 : decode cX12_turn 96 = .ok (.iinc 10 1, 3) := by decide +kernel
theorem dX12_turn_99 : decode cX12_turn 99 = .ok (.goto (-92), 3) := by decide +kernel
theorem dX12_turn_102 : decode cX12_turn 102 = .ok (.lload 8, 2) := by decide +kernel
theorem dX12_turn_104 : decode cX12_turn 104 = .ok (.lreturn, 1) := by decide +kernel
theorem e_X12_turn_67 {X : gk_X} {F : Nat} {k7 : Nat → Int32 → Int32 → Int32 → Int64 → Int64 → Int32 → gk_S → Option (Int64 × gk_S)} (hk7 : ∀ (l0 : Nat) (l1 : Int32) (l2 : Int32) (l3 : Int32) (l4 : Int64) (l8 : Int64) (l10 : Int32) (S : gk_S) (r : (Int64 × gk_S)), k7 l0 l1 l2 l3 l4 l8 l10 S = some r → EvW X m_X12_turn 1 0 0 7 [some (.ref l0), some (.int l1), some (.int l2), some (.int l3), some (.long l4), none, none, none, some (.long l8), none, some (.int l10), none] [] S (qRJ r)) {l0 : Nat} {l1 : Int32} {l2 : Int32} {l3 : Int32} {l4 : Int64} {l8 : Int64} {l10 : Int32} {l11 : Int32} {S : gk_S} {r : (Int64 × gk_S)} (h0 : f_X12_turn_67 F k7 l0 l1 l2 l3 l4 l8 l10 l11 S = some r) : EvW X m_X12_turn 1 0 0 67 [some (.ref l0), some (.int l1), some (.int l2), some (.int l3), some (.long l4), none, none, none, some (.long l8), none, some (.int l10), some (.int l11)] [] S (qRJ r) := by
  unfold f_X12_turn_67 at h0
  refine ev_aload_n (pc := 67) (i := 0) rfl rfl rfl dX12_turn_67 ?_
  obtain ⟨g22, h23⟩ := qk_el h0; clear h0
  obtain ⟨b24, e25, h26⟩ := qP_el h23; clear h23
  refine xv_getP (pc := 68) fn_910 (isb_el g22) e25 gw_1150 dX12_turn_68 ?_
  refine ev_iload (pc := 71) (i := 11) rfl dX12_turn_71 ?_
  obtain ⟨g27, h28⟩ := qk_el h26; clear h26
  obtain ⟨g29, h30⟩ := qk_el h28; clear h28
  obtain ⟨x31, e32, h33⟩ := qv_el h30; clear h30
  refine yv_lald (pc := 73) (isb_el g27) (inb_el g29) e32 dX12_turn_73 ?_
  refine ev_lload (pc := 74) (i := 4) rfl dX12_turn_74 ?_
  refine ev_lcmp (pc := 76)  dX12_turn_76 ?_
  refine ev_if_lt (pc := 77) (tgt := 96) (by decide) dX12_turn_77 (fun c34 => ?_) (fun c34 => ?_)
  · replace h33 := qi_t h33 (lc_lt c34)
    refine ev_iinc (pc := 96) (L' := [some (.ref l0), some (.int l1), some (.int l2), some (.int l3), some (.long l4), none, none, none, some (.long l8), none, some (.int (l10 + 1)), some (.int l11)]) (i := 10) (v := (l10 + 1)) rfl rfl (by decide) rfl rfl dX12_turn_96 ?_
    refine ev_goto (pc := 99) (tgt := 7) (by decide) dX12_turn_99 ?_
    exact ev_weak (qL_s (qL_s (qL_s (qL_s (qL_s (qL_n (qL_n (qL_n (qL_s (qL_n (qL_s (qL_n qL_nil)))))))))))) (hk7 _ _ _ _ _ _ _ _ _ h33)
  · replace h33 := qi_f h33 (lc_ltN c34)
    refine ev_lload (pc := 80) (i := 8) rfl dX12_turn_80 ?_
    refine ev_aload_n (pc := 82) (i := 0) rfl rfl rfl dX12_turn_82 ?_
    obtain ⟨b36, e37, h38⟩ := qP_el h33; clear h33
    refine xv_getP (pc := 83) fn_910 (isb_el g22) e37 gw_1150 dX12_turn_83 ?_
    refine ev_iload (pc := 86) (i := 11) rfl dX12_turn_86 ?_
    obtain ⟨g39, h40⟩ := qk_el h38; clear h38
    obtain ⟨g41, h42⟩ := qk_el h40; clear h40
    obtain ⟨x43, e44, h45⟩ := qv_el h42; clear h42
    refine yv_lald (pc := 88) (isb_el g39) (inb_el g41) e44 dX12_turn_88 ?_
    refine ev_lconst (pc := 89) (v := 1) (by decide) dX12_turn_89 ?_
    refine ev_ladd (pc := 90)  dX12_turn_90 ?_
    obtain ⟨x46, e47, h48⟩ := qv_el h45; clear h45
    refine ev_minJ (pc := 91) gw_1512 gw_1513 gw_22 gw_1514 e47 rfl (Nat.le_of_ble_eq_true rfl) (by omega) dX12_turn_91 ?_
    refine ev_lstore (pc := 94) (L' := [some (.ref l0), some (.int l1), some (.int l2), some (.int l3), some (.long l4), none, none, none, some (.long x46), none, some (.int l10), some (.int l11)]) (i := 8) (by decide) rfl rfl dX12_turn_94 ?_
    refine ev_iinc (pc := 96) (L' := [some (.ref l0), some (.int l1), some (.int l2), some (.int l3), some (.long l4), none, none, none, some (.long x46), none, some (.int (l10 + 1)), some (.int l11)]) (i := 10) (v := (l10 + 1)) rfl rfl (by decide) rfl rfl dX12_turn_96 ?_
    refine ev_goto (pc := 99) (tgt := 7) (by decide) dX12_turn_99 ?_
    exact ev_weak (qL_s (qL_s (qL_s (qL_s (qL_s (qL_n (qL_n (qL_n (qL_s (qL_n (qL_s (qL_n qL_nil)))))))))))) (hk7 _ _ _ _ _ _ _ _ _ h48)
theorem e_X12_turn_7 {X : gk_X} {F : Nat} : ∀ (n : Nat) (l0 : Nat) (l1 : Int32) (l2 : Int32) (l3 : Int32) (l4 : Int64) (l8 : Int64) (l10 : Int32) (S : gk_S) (r : (Int64 × gk_S)), f_X12_turn_7 F n l0 l1 l2 l3 l4 l8 l10 S = some r → EvW X m_X12_turn 1 0 0 7 [some (.ref l0), some (.int l1), some (.int l2), some (.int l3), some (.long l4), none, none, none, some (.long l8), none, some (.int l10), none] [] S (qRJ r) := by
  intro n
  induction n with
  | zero => intro l0 l1 l2 l3 l4 l8 l10 S r h0; rw [f_X12_turn_7] at h0; cases h0
  | succ n ih =>
    intro l0 l1 l2 l3 l4 l8 l10 S r h0; rw [f_X12_turn_7] at h0
    refine ev_iload (pc := 7) (i := 10) rfl dX12_turn_7 ?_
    refine ev_bipush (pc := 9) (v := 16) (by decide) dX12_turn_9 ?_
    refine ev_ic_ge (pc := 11) (tgt := 102) (by decide) dX12_turn_11 (fun c1 => ?_) (fun c1 => ?_)
    · replace h0 := qi_t h0 c1
      refine ev_lload (pc := 102) (i := 8) rfl dX12_turn_102 ?_
      exact ev_lreturn (pc := 104) rfl (qRJ_eq h0) dX12_turn_104
    · replace h0 := qi_f h0 c1
      refine ev_iload_n (pc := 14) (i := 2) rfl rfl dX12_turn_14 ?_
      refine ev_iload (pc := 15) (i := 10) rfl dX12_turn_15 ?_
      refine ev_ishr (pc := 17)  dX12_turn_17 ?_
      refine ev_iconst (pc := 18) (v := 1) (by decide) dX12_turn_18 ?_
      refine ev_iand (pc := 19)  dX12_turn_19 ?_
      refine ev_if_ne (pc := 20) (tgt := 26) (by decide) dX12_turn_20 (fun c3 => ?_) (fun c3 => ?_)
      · replace h0 := qi_f h0 c3
        refine ev_bipush (pc := 26) (v := 6) (by decide) dX12_turn_26 ?_
        refine ev_bipush (pc := 28) (v := 16) (by decide) dX12_turn_28 ?_
        refine ev_iload_n (pc := 30) (i := 1) rfl rfl dX12_turn_30 ?_
        refine ev_imul (pc := 31)  dX12_turn_31 ?_
        refine ev_iload (pc := 32) (i := 10) rfl dX12_turn_32 ?_
        refine ev_iadd (pc := 34)  dX12_turn_34 ?_
        refine ev_imul (pc := 35)  dX12_turn_35 ?_
        refine ev_iload_n (pc := 36) (i := 3) rfl rfl dX12_turn_36 ?_
        refine ev_iadd (pc := 37)  dX12_turn_37 ?_
        obtain ⟨x5, e6, h7⟩ := qv_el h0; clear h0
        refine xv_top e6 ?_
        refine ev_istore (pc := 38) (L' := [some (.ref l0), some (.int l1), some (.int l2), some (.int l3), some (.long l4), none, none, none, some (.long l8), none, some (.int l10), some (.int x5)]) (i := 11) (by decide) rfl rfl dX12_turn_38 ?_
        refine ev_aload_n (pc := 40) (i := 0) rfl rfl rfl dX12_turn_40 ?_
        obtain ⟨g8, h9⟩ := qk_el h7; clear h7
        obtain ⟨b10, e11, h12⟩ := qP_el h9; clear h9
        refine xv_getP (pc := 41) fn_909 (isb_el g8) e11 gw_1149 dX12_turn_41 ?_
        refine ev_iload (pc := 44) (i := 11) rfl dX12_turn_44 ?_
        obtain ⟨g13, h14⟩ := qk_el h12; clear h12
        obtain ⟨g15, h16⟩ := qk_el h14; clear h14
        obtain ⟨x17, e18, h19⟩ := qv_el h16; clear h16
        refine yv_lald (pc := 46) (isb_el g13) (inb_el g15) e18 dX12_turn_46 ?_
        refine ev_lload (pc := 47) (i := 4) rfl dX12_turn_47 ?_
        refine ev_lcmp (pc := 49)  dX12_turn_49 ?_
        refine ev_if_le (pc := 50) (tgt := 67) (by decide) dX12_turn_50 (fun c20 => ?_) (fun c20 => ?_)
        · replace h19 := qi_t h19 (lc_le c20)
          exact ev_weak (qL_s (qL_s (qL_s (qL_s (qL_s (qL_n (qL_n (qL_n (qL_s (qL_n (qL_s (qL_s qL_nil)))))))))))) (e_X12_turn_67 ih h19)
        · replace h19 := qi_f h19 (lc_leN c20)
          refine ev_lload (pc := 53) (i := 8) rfl dX12_turn_53 ?_
          refine ev_aload_n (pc := 55) (i := 0) rfl rfl rfl dX12_turn_55 ?_
          obtain ⟨b49, e50, h51⟩ := qP_el h19; clear h19
          refine xv_getP (pc := 56) fn_909 (isb_el g8) e50 gw_1149 dX12_turn_56 ?_
          refine ev_iload (pc := 59) (i := 11) rfl dX12_turn_59 ?_
          obtain ⟨g52, h53⟩ := qk_el h51; clear h51
          obtain ⟨g54, h55⟩ := qk_el h53; clear h53
          obtain ⟨x56, e57, h58⟩ := qv_el h55; clear h55
          refine yv_lald (pc := 61) (isb_el g52) (inb_el g54) e57 dX12_turn_61 ?_
          obtain ⟨x59, e60, h61⟩ := qv_el h58; clear h58
          refine ev_minJ (pc := 62) gw_1512 gw_1513 gw_22 gw_1514 e60 rfl (Nat.le_of_ble_eq_true rfl) (by omega) dX12_turn_62 ?_
          refine ev_lstore (pc := 65) (L' := [some (.ref l0), some (.int l1), some (.int l2), some (.int l3), some (.long l4), none, none, none, some (.long x59), none, some (.int l10), some (.int x5)]) (i := 8) (by decide) rfl rfl dX12_turn_65 ?_
          exact ev_weak (qL_s (qL_s (qL_s (qL_s (qL_s (qL_n (qL_n (qL_n (qL_s (qL_n (qL_s (qL_s qL_nil)))))))))))) (e_X12_turn_67 ih h61)
      · replace h0 := qi_t h0 c3
        refine ev_goto (pc := 23) (tgt := 96) (by decide) dX12_turn_23 ?_
        refine ev_iinc (pc := 96) (L' := [some (.ref l0), some (.int l1), some (.int l2), some (.int l3), some (.long l4), none, none, none, some (.long l8), none, some (.int (l10 + 1)), none]) (i := 10) (v := (l10 + 1)) rfl rfl (by decide) rfl rfl dX12_turn_96 ?_
        refine ev_goto (pc := 99) (tgt := 7) (by decide) dX12_turn_99 ?_
        exact (ev_weak (qL_s (qL_s (qL_s (qL_s (qL_s (qL_n (qL_n (qL_n (qL_s (qL_n (qL_s (qL_n qL_nil)))))))))))) (ih _ _ _ _ _ _ _ _ _ h0))
theorem e_X12_turn {X : gk_X} {F : Nat} {S : gk_S} {a : Nat} {p0 : Int32} {p1 : Int32} {p2 : Int32} {p3 : Int64} {p4 : Int64} {r : (Int64 × gk_S)} (h0 : f_X12_turn F S a p0 p1 p2 p3 p4 = some r) : EvM X m_X12_turn 1 0 0 [.ref a, .int p0, .int p1, .int p2, .long p3, .long p4] S (qRJ r) := by
  unfold f_X12_turn at h0
  refine ev_method (by decide +kernel) rfl rfl (Nat.le_of_ble_eq_true rfl) ?_
  show EvW X m_X12_turn 1 0 0 0 [some (.ref a), some (.int p0), some (.int p1), some (.int p2), some (.long p3), none, some (.long p4), none, none, none, none, none] [] S _
  refine ev_lload (pc := 0) (i := 6) rfl dX12_turn_0 ?_
  refine ev_lstore (pc := 2) (L' := [some (.ref a), some (.int p0), some (.int p1), some (.int p2), some (.long p3), none, some (.long p4), none, some (.long p4), none, none, none]) (i := 8) (by decide) rfl rfl dX12_turn_2 ?_
  refine ev_iconst (pc := 4) (v := 0) (by decide) dX12_turn_4 ?_
  refine ev_istore (pc := 5) (L' := [some (.ref a), some (.int p0), some (.int p1), some (.int p2), some (.long p3), none, some (.long p4), none, some (.long p4), none, some (.int 0), none]) (i := 10) (by decide) rfl rfl dX12_turn_5 ?_
  exact ev_weak (qL_s (qL_s (qL_s (qL_s (qL_s (qL_n (qL_n (qL_n (qL_s (qL_n (qL_s (qL_n qL_nil)))))))))))) (e_X12_turn_7 F _ _ _ _ _ _ _ _ _ h0)
theorem dX12_goesOn_0 : decode cX12_goesOn 0 = .ok (.aload_n 0, 1) := by decide +kernel
theorem dX12_goesOn_1 : decode cX12_goesOn 1 = .ok (.getfield 283, 3) := by decide +kernel
theorem dX12_goesOn_4 : decode cX12_goesOn 4 = .ok (.ifCond .ge 16, 3) := by decide +kernel
theorem dX12_goesOn_7 : decode cX12_goesOn 7 = .ok (.aload_n 0, 1) := by decide +kernel
theorem dX12_goesOn_8 : decode cX12_goesOn 8 = .ok (.aload_n 0, 1) := by decide +kernel
theorem dX12_goesOn_9 : decode cX12_goesOn 9 = .ok (.getfield 289, 3) := by decide +kernel
theorem dX12_goesOn_12 : decode cX12_goesOn 12 = .ok (.iload_n 2, 1) := by decide +kernel
theorem dX12_goesOn_13 : decode cX12_goesOn 13 = .ok (.iload_n 1, 1) := by decide +kernel
theorem dX12_goesOn_14 : decode cX12_goesOn 14 = .ok (.invokevirtual 302, 3) := by decide +kernel
theorem dX12_goesOn_17 : decode cX12_goesOn 17 = .ok (.goto 4, 3) := by decide +kernel
theorem dX12_goesOn_20 : decode cX12_goesOn 20 = .ok (.iload_n 2, 1) := by decide +kernel
theorem dX12_goesOn_21 : decode cX12_goesOn 21 = .ok (.istore 4, 2) := by decide +kernel
theorem dX12_goesOn_23 : decode cX12_goesOn 23 = .ok (.aload_n 0, 1) := by decide +kernel
theorem dX12_goesOn_24 : decode cX12_goesOn 24 = .ok (.getfield 283, 3) := by decide +kernel
theorem dX12_goesOn_27 : decode cX12_goesOn 27 = .ok (.ifCond .ge 16, 3) := by decide +kernel
theorem dX12_goesOn_30 : decode cX12_goesOn 30 = .ok (.aload_n 0, 1) := by decide +kernel
theorem dX12_goesOn_31 : decode cX12_goesOn 31 = .ok (.aload_n 0, 1) := by decide +kernel
theorem dX12_goesOn_32 : decode cX12_goesOn 32 = .ok (.getfield 296, 3) := by decide +kernel
theorem dX12_goesOn_35 : decode cX12_goesOn 35 = .ok (.iload_n 3, 1) := by decide +kernel
theorem dX12_goesOn_36 : decode cX12_goesOn 36 = .ok (.iload_n 1, 1) := by decide +kernel
theorem dX12_goesOn_37 : decode cX12_goesOn 37 = .ok (.invokevirtual 302, 3) := by decide +kernel
theorem dX12_goesOn_40 : decode cX12_goesOn 40 = .ok (.goto 4, 3) := by decide +kernel
theorem dX12_goesOn_43 : decode cX12_goesOn 43 = .ok (.iconst 0, 1) := by decide +kernel
theorem dX12_goesOn_44 : decode cX12_goesOn 44 = .ok (.istore 5, 2) := by decide +kernel
theorem dX12_goesOn_46 : decode cX12_goesOn 46 = .ok (.iload_n 1, 1) := by decide +kernel
theorem dX12_goesOn_47 : decode cX12_goesOn 47 = .ok (.bipush 6, 2) := by decide +kernel
theorem dX12_goesOn_49 : decode cX12_goesOn 49 = .ok (.if_icmp .ne 34, 3) := by decide +kernel
theorem dX12_goesOn_52 : decode cX12_goesOn 52 = .ok (.aload_n 0, 1) := by decide +kernel
theorem dX12_goesOn_53 : decode cX12_goesOn 53 = .ok (.iload 4, 2) := by decide +kernel
theorem dX12_goesOn_55 : decode cX12_goesOn 55 = .ok (.iload 5, 2) := by decide +kernel
theorem dX12_goesOn_57 : decode cX12_goesOn 57 = .ok (.invokevirtual 305, 3) := by decide +kernel
theorem dX12_goesOn_60 : decode cX12_goesOn 60 = .ok (.istore 6, 2) := by decide +kernel
theorem dX12_goesOn_62 : decode cX12_goesOn 62 = .ok (.aload_n 0, 1) := by decide +kernel
theorem dX12_goesOn_63 : decode cX12_goesOn 63 = .ok (.getfield 77, 3) := by decide +kernel
theorem dX12_goesOn_66 : decode cX12_goesOn 66 = .ok (.bipush 6, 2) := by decide +kernel
theorem dX12_goesOn_68 : decode cX12_goesOn 68 = .ok (.iload 6, 2) := by decide +kernel
theorem dX12_goesOn_70 : decode cX12_goesOn 70 = .ok (.i2l, 1) := by decide +kernel
theorem dX12_goesOn_71 : decode cX12_goesOn 71 = .ok (.lastore, 1) := by decide +kernel
theorem dX12_goesOn_72 : decode cX12_goesOn 72 = .ok (.iload 6, 2) := by decide +kernel
theorem dX12_goesOn_74 : decode cX12_goesOn 74 = .ok (.ifCond .lt 7, 3) := by decide +kernel
theorem dX12_goesOn_77 : decode cX12_goesOn 77 = .ok (.iconst 1, 1) := by decide +kernel
theorem dX12_goesOn_78 : decode cX12_goesOn 78 = .ok (.goto 4, 3) := by decide +kernel
theorem dX12_goesOn_81 : decode cX12_goesOn 81 = .ok (.iconst 0, 1) := by decide +kernel
theorem dX12_goesOn_82 : decode cX12_goesOn 82 = .ok (.ireturn, 1) := by decide +kernel
theorem dX12_goesOn_83 : decode cX12_goesOn 83 = .ok (.aload_n 0, 1) := by decide +kernel
theorem dX12_goesOn_84 : decode cX12_goesOn 84 = .ok (.iload 4, 2) := by decide +kernel
theorem dX12_goesOn_86 : decode cX12_goesOn 86 = .ok (.iload 5, 2) := by decide +kernel
theorem dX12_goesOn_88 : decode cX12_goesOn 88 = .ok (.iload_n 1, 1) := by decide +kernel
theorem dX12_goesOn_89 : decode cX12_goesOn 89 = .ok (.invokevirtual 308, 3) := by decide +kernel
theorem dX12_goesOn_92 : decode cX12_goesOn 92 = .ok (.ifCond .eq 5, 3) := by decide +kernel
theorem dX12_goesOn_95 : decode cX12_goesOn 95 = .ok (.iconst 0, 1) := by decide +kernel
theorem dX12_goesOn_96 : decode cX12_goesOn 96 = .ok (.ireturn, 1) := by decide +kernel
theorem dX12_goesOn_97 : decode cX12_goesOn 97 = .ok (.iload_n 1, 1) := by decide +kernel
theorem dX12_goesOn_98 : decode cX12_goesOn 98 = .ok (.i2l, 1) := by decide +kernel
theorem dX12_goesOn_99 : decode cX12_goesOn 99 = .ok (.bipush 32, 2) := by decide +kernel
theorem dX12_goesOn_101 : decode cX12_goesOn 101 = .ok (.lshl, 1) := by decide +kernel
theorem dX12_goesOn_102 : decode cX12_goesOn 102 = .ok (.iload 4, 2) := by decide +kernel
theorem dX12_goesOn_104 : decode cX12_goesOn 104 = .ok (.i2l, 1) := by decide +kernel
theorem dX12_goesOn_105 : decode cX12_goesOn 105 = .ok (.bipush 16, 2) := by decide +kernel
theorem dX12_goesOn_107 : decode cX12_goesOn 107 = .ok (.lshl, 1) := by decide +kernel
theorem dX12_goesOn_108 : decode cX12_goesOn 108 = .ok (.lor, 1) := by decide +kernel
theorem dX12_goesOn_109 : decode cX12_goesOn 109 = .ok (.iload 5, 2) := by decide +kernel
theorem dX12_goesOn_111 : decode cX12_goesOn 111 = .ok (.i2l, 1) := by decide +kernel
theorem dX12_goesOn_112 : decode cX12_goesOn 112 = .ok (.lor, 1) := by decide +kernel
theorem dX12_goesOn_113 : decode cX12_goesOn 113 = .ok (.lconst 1, 1) := by decide +kernel
theorem dX12_goesOn_114 : decode cX12_goesOn 114 = .ok (.ladd, 1) := by decide +kernel
theorem dX12_goesOn_115 : decode cX12_goesOn 115 = .ok (.lstore 6, 2) := by decide +kernel
theorem dX12_goesOn_117 : decode cX12_goesOn 117 = .ok (.lload 6, 2) := by decide +kernel
theorem dX12_goesOn_119 : decode cX12_goesOn 119 = .ok (.invokestatic 312, 3) := by decide +kernel
theorem dX12_goesOn_122 : decode cX12_goesOn 122 = .ok (.istore 8, 2) := by decide +kernel
theorem dX12_goesOn_124 : decode cX12_goesOn 124 = .ok (.aload_n 0, 1) := by decide +kernel
theorem dX12_goesOn_125 : decode cX12_goesOn 125 = .ok (.getfield 83, 3) := by decide +kernel
theorem dX12_goesOn_128 : decode cX12_goesOn 128 = .ok (.iload 8, 2) := by decide +kernel
theorem dX12_goesOn_130 : decode cX12_goesOn 130 = .ok (.baload, 1) := by decide +kernel
theorem dX12_goesOn_131 : decode cX12_goesOn 131 = .ok (.ifCond .eq 18, 3) := by decide +kernel
theorem dX12_goesOn_134 : decode cX12_goesOn 134 = .ok (.aload_n 0, 1) := by decide +kernel
theorem dX12_goesOn_135 : decode cX12_goesOn 135 = .ok (.getfield 80, 3) := by decide +kernel
theorem dX12_goesOn_138 : decode cX12_goesOn 138 = .ok (.iload 8, 2) := by decide +kernel
theorem dX12_goesOn_140 : decode cX12_goesOn 140 = .ok (.laload, 1) := by decide +kernel
theorem dX12_goesOn_141 : decode cX12_goesOn 141 = .ok (.lload 6, 2) := by decide +kernel
theorem dX12_goesOn_143 : decode cX12_goesOn 143 = .ok (.lcmp, 1) := by decide +kernel
theorem dX12_goesOn_144 : decode cX12_goesOn 144 = .ok (.ifCond .ne 5, 3) := by decide +kernel
theorem dX12_goesOn_147 : decode cX12_goesOn 147 = .ok (.iconst 0, 1) := by decide +kernel
theorem dX12_goesOn_148 : decode cX12_goesOn 148 = .ok (.ireturn, 1) := by decide +kernel
theorem dX12_goesOn_149 : decode cX12_goesOn 149 = .ok (.aload_n 0, 1) := by decide +kernel
theorem dX12_goesOn_150 : decode cX12_goesOn 150 = .ok (.iload_n 1, 1) := by decide +kernel
theorem dX12_goesOn_151 : decode cX12_goesOn 151 = .ok (.invokevirtual 277, 3) := by decide +kernel
theorem dX12_goesOn_154 : decode cX12_goesOn 154 = .ok (.lconst 1, 1) := by decide +kernel
theorem dX12_goesOn_155 : decode cX12_goesOn 155 = .ok (.ladd, 1) := by decide +kernel
theorem dX12_goesOn_156 : decode cX12_goesOn 156 = .ok (.lstore 9, 2) := by decide +kernel
theorem dX12_goesOn_158 : decode cX12_goesOn 158 = .ok (.aload_n 0, 1) := by decide +kernel
theorem dX12_goesOn_159 : decode cX12_goesOn 159 = .ok (.iload_n 1, 1) := by decide +kernel
theorem dX12_goesOn_160 : decode cX12_goesOn 160 = .ok (.invokevirtual 274, 3) := by decide +kernel
theorem dX12_goesOn_163 : decode cX12_goesOn 163 = .ok (.lstore 11, 2) := by decide +kernel
theorem dX12_goesOn_165 : decode cX12_goesOn 165 = .ok (.lload 11, 2) := by decide +kernel
theorem dX12_goesOn_167 : decode cX12_goesOn 167 = .ok (.lload 9, 2) := by decide +kernel
theorem dX12_goesOn_169 : decode cX12_goesOn 169 = .ok (.lcmp, 1) := by decide +kernel
theorem dX12_goesOn_170 : decode cX12_goesOn 170 = .ok (.ifCond .ge 98, 3) := by decide +kernel
theorem dX12_goesOn_173 : decode cX12_goesOn 173 = .ok (.aload_n 0, 1) := by decide +kernel
theorem dX12_goesOn_174 : decode cX12_goesOn 174 = .ok (.getfield 77, 3) := by decide +kernel
theorem dX12_goesOn_177 : decode cX12_goesOn 177 = .ok (.iload_n 1, 1) := by decide +kernel
theorem dX12_goesOn_178 : decode cX12_goesOn 178 = .ok (.lload 11, 2) := by decide +kernel
theorem dX12_goesOn_180 : decode cX12_goesOn 180 = .ok (.lastore, 1) := by decide +kernel
theorem dX12_goesOn_181 : decode cX12_goesOn 181 = .ok (.aload_n 0, 1) := by decide +kernel
theorem dX12_goesOn_182 : decode cX12_goesOn 182 = .ok (.iload_n 1, 1) := by decide +kernel
theorem dX12_goesOn_183 : decode cX12_goesOn 183 = .ok (.iconst 1, 1) := by decide +kernel
theorem dX12_goesOn_184 : decode cX12_goesOn 184 = .ok (.iadd, 1) := by decide +kernel
theorem dX12_goesOn_185 : decode cX12_goesOn 185 = .ok (.aload_n 0, 1) := by decide +kernel
theorem dX12_goesOn_186 : decode cX12_goesOn 186 = .ok (.aload_n 0, 1) := by decide +kernel
theorem dX12_goesOn_187 : decode cX12_goesOn 187 = .ok (.getfield 289, 3) := by decide +kernel
theorem dX12_goesOn_190 : decode cX12_goesOn 190 = .ok (.iload 4, 2) := by decide +kernel
theorem dX12_goesOn_192 : decode cX12_goesOn 192 = .ok (.iload_n 1, 1) := by decide +kernel
theorem dX12_goesOn_193 : decode cX12_goesOn 193 = .ok (.lload 11, 2) := by decide +kernel
theorem dX12_goesOn_195 : decode cX12_goesOn 195 = .ok (.invokevirtual 316, 3) := by decide +kernel
theorem dX12_goesOn_198 : decode cX12_goesOn 198 = .ok (.aload_n 0, 1) := by decide +kernel
theorem dX12_goesOn_199 : decode cX12_goesOn 199 = .ok (.getfield 283, 3) := by decide +kernel
theorem dX12_goesOn_202 : decode cX12_goesOn 202 = .ok (.ifCond .ge 19, 3) := by decide +kernel
theorem dX12_goesOn_205 : decode cX12_goesOn 205 = .ok (.aload_n 0, 1) := by decide +kernel
theorem dX12_goesOn_206 : decode cX12_goesOn 206 = .ok (.aload_n 0, 1) := by decide +kernel
theorem dX12_goesOn_207 : decode cX12_goesOn 207 = .ok (.getfield 296, 3) := by decide +kernel
theorem dX12_goesOn_210 : decode cX12_goesOn 210 = .ok (.iload 5, 2) := by decide +kernel
theorem dX12_goesOn_212 : decode cX12_goesOn 212 = .ok (.iload_n 1, 1) := by decide +kernel
theorem dX12_goesOn_213 : decode cX12_goesOn 213 = .ok (.lload 11, 2) := by decide +kernel
theorem dX12_goesOn_215 : decode cX12_goesOn 215 = .ok (.invokevirtual 316, 3) := by decide +kernel
theorem dX12_goesOn_218 : decode cX12_goesOn 218 = .ok (.goto 4, 3) := by decide +kernel
theorem dX12_goesOn_221 : decode cX12_goesOn 221 = .ok (.iconst 0, 1) := by decide +kernel
theorem dX12_goesOn_222 : decode cX12_goesOn 222 = .ok (.invokevirtual 320, 3) := by decide +kernel
theorem dX12_goesOn_225 : decode cX12_goesOn 225 = .ok (.ifCond .eq 5, 3) := by decide +kernel
theorem dX12_goesOn_228 : decode cX12_goesOn 228 = .ok (.iconst 1, 1) := by decide +kernel
theorem dX12_goesOn_229 : decode cX12_goesOn 229 = .ok (.ireturn, 1) := by decide +kernel
theorem dX12_goesOn_230 : decode cX12_goesOn 230 = .ok (.aload_n 0, 1) := by decide +kernel
theorem dX12_goesOn_231 : decode cX12_goesOn 231 = .ok (.aload_n 0, 1) := by decide +kernel
theorem dX12_goesOn_232 : decode cX12_goesOn 232 = .ok (.getfield 289, 3) := by decide +kernel
theorem dX12_goesOn_235 : decode cX12_goesOn 235 = .ok (.iload 4, 2) := by decide +kernel
theorem dX12_goesOn_237 : decode cX12_goesOn 237 = .ok (.iload_n 1, 1) := by decide +kernel
theorem dX12_goesOn_238 : decode cX12_goesOn 238 = .ok (.lload 11, 2) := by decide +kernel
theorem dX12_goesOn_240 : decode cX12_goesOn 240 = .ok (.lload 9, 2) := by decide +kernel
theorem dX12_goesOn_242 : decode cX12_goesOn 242 = .ok (.invokevirtual 323, 3) := by decide +kernel
theorem dX12_goesOn_245 : decode cX12_goesOn 245 = .ok (.aload_n 0, 1) := by decide +kernel
theorem dX12_goesOn_246 : decode cX12_goesOn 246 = .ok (.aload_n 0, 1) := by decide +kernel
theorem dX12_goesOn_247 : decode cX12_goesOn 247 = .ok (.getfield 296, 3) := by decide +kernel
theorem dX12_goesOn_250 : decode cX12_goesOn 250 = .ok (.iload 5, 2) := by decide +kernel
theorem dX12_goesOn_252 : decode cX12_goesOn 252 = .ok (.iload_n 1, 1) := by decide +kernel
theorem dX12_goesOn_253 : decode cX12_goesOn 253 = .ok (.lload 11, 2) := by decide +kernel
theorem dX12_goesOn_255 : decode cX12_goesOn 255 = .ok (.lload 9, 2) := by decide +kernel
theorem dX12_goesOn_257 : decode cX12_goesOn 257 = .ok (.invokevirtual 323, 3) := by decide +kernel
theorem dX12_goesOn_260 : decode cX12_goesOn 260 = .ok (.invokestatic 268, 3) := by decide +kernel
theorem dX12_goesOn_263 : decode cX12_goesOn 263 = .ok (.lstore 11, 2) := by decide +kernel
theorem dX12_goesOn_265 : decode cX12_goesOn 265 = .ok (.goto (-100), 3) := by decide +kernel
theorem dX12_goesOn_268 : decode cX12_goesOn 268 = .ok (.aload_n 0, 1) := by decide +kernel
theorem dX12_goesOn_269 : decode cX12_goesOn 269 = .ok (.getfield 83, 3) := by decide +kernel
theorem dX12_goesOn_272 : decode cX12_goesOn 272 = .ok (.iload 8, 2) := by decide +kernel
theorem dX12_goesOn_274 : decode cX12_goesOn 274 = .ok (.iconst 1, 1) := by decide +kernel
theorem dX12_goesOn_275 : decode cX12_goesOn 275 = .ok (.bastore, 1) := by decide +kernel
theorem dX12_goesOn_276 : decode cX12_goesOn 276 = .ok (.aload_n 0, 1) := by decide +kernel
theorem dX12_goesOn_277 : decode cX12_goesOn 277 = .ok (.getfield 80, 3) := by decide +kernel
theorem dX12_goesOn_280 : decode cX12_goesOn 280 = .ok (.iload 8, 2) := by decide +kernel
theorem dX12_goesOn_282 : decode cX12_goesOn 282 = .ok (.lload 6, 2) := by decide +kernel
theorem dX12_goesOn_284 : decode cX12_goesOn 284 = .ok (.lastore, 1) := by decide +kernel
theorem dX12_goesOn_285 : decode cX12_goesOn 285 = .ok (.iconst 0, 1) := by decide +kernel
theorem dX12_goesOn_286 : decode cX12_goesOn 286 = .ok (.ireturn, 1) := by decide +kernel
theorem e_X12_goesOn_222 {X : gk_X} {F : Nat} {dg : Nat} {g : gk_S → Nat → Int32 → Int32 → Int32 → Option (Int32 × gk_S)} (hg : ∀ (S : gk_S) (q0 : Nat) (q1 : Int32) (q2 : Int32) (q3 : Int32) (r : Int32 × gk_S), g S q0 q1 q2 q3 = some r → EvM X m_X12_goesOn dg 0 0 [.ref q0, .int q1, .int q2, .int q3] S (qRI r)) {k165 : Nat → Int32 → Int32 → Int32 → Int64 → Int32 → Int64 → Int64 → gk_S → Option (Int32 × gk_S)} (hk165 : ∀ (l0 : Nat) (l1 : Int32) (l4 : Int32) (l5 : Int32) (l6 : Int64) (l8 : Int32) (l9 : Int64) (l11 : Int64) (S : gk_S) (r : (Int32 × gk_S)), k165 l0 l1 l4 l5 l6 l8 l9 l11 S = some r → EvW X m_X12_goesOn (dg + 8) 0 0 165 [some (.ref l0), some (.int l1), none, none, some (.int l4), some (.int l5), some (.long l6), none, some (.int l8), some (.long l9), none, some (.long l11), none] [] S (qRI r)) {l0 : Nat} {l1 : Int32} {l4 : Int32} {l5 : Int32} {l6 : Int64} {l8 : Int32} {l9 : Int64} {l11 : Int64} {s0 : Int32} {s1 : Int32} {s2 : Int32} {s3 : Nat} {S : gk_S} {r : (Int32 × gk_S)} (h0 : f_X12_goesOn_222 F g k165 l0 l1 l4 l5 l6 l8 l9 l11 s0 s1 s2 s3 S = some r) : EvW X m_X12_goesOn (dg + 8) 0 0 222 [some (.ref l0), some (.int l1), none, none, some (.int l4), some (.int l5), some (.long l6), none, some (.int l8), some (.long l9), none, some (.long l11), none] [.int s0, .int s1, .int s2, .ref s3] S (qRI r) := by
  unfold f_X12_goesOn_222 at h0
  obtain ⟨g111, h112⟩ := qk_el h0; clear h0
  obtain ⟨x113, S114, e115, h116⟩ := qc_el h112; clear h112
  refine xv_callV (pc := 222) (st := []) (as := [.int s2, .int s1, .int s0]) (v := (some (.int x113))) (S' := S114) ok_X12_goesOn (hg _ _ _ _ _ _ e115) (isb_el g111) (by omega) rfl (Nat.le_of_ble_eq_true rfl) rfl gw_1456 dX12_goesOn_222 ?_
  refine ev_if_eq (pc := 225) (tgt := 230) (by decide) dX12_goesOn_225 (fun c117 => ?_) (fun c117 => ?_)
  · replace h116 := qi_t h116 c117
    refine ev_aload_n (pc := 230) (i := 0) rfl rfl rfl dX12_goesOn_230 ?_
    refine ev_aload_n (pc := 231) (i := 0) rfl rfl rfl dX12_goesOn_231 ?_
    obtain ⟨g119, h120⟩ := qk_el h116; clear h116
    obtain ⟨x121, e122, h123⟩ := qv_el h120; clear h120
    refine xv_getIv (pc := 232) fn_926 (isb_el g119) e122 gw_1166 dX12_goesOn_232 ?_
    refine ev_iload (pc := 235) (i := 4) rfl dX12_goesOn_235 ?_
    refine ev_iload_n (pc := 237) (i := 1) rfl rfl dX12_goesOn_237 ?_
    refine ev_lload (pc := 238) (i := 11) rfl dX12_goesOn_238 ?_
    refine ev_lload (pc := 240) (i := 9) rfl dX12_goesOn_240 ?_
    obtain ⟨x124, S125, e126, h127⟩ := qc_el h123; clear h123
    refine xv_callV (pc := 242) (st := []) (as := [.int x121, .int l4, .int l1, .long l11, .long l9]) (v := (some (.long x124))) (S' := S125) ok_X12_turn (e_X12_turn e126) (isb_el g119) (by omega) rfl (Nat.le_of_ble_eq_true rfl) rfl gw_1508 dX12_goesOn_242 ?_
    refine ev_aload_n (pc := 245) (i := 0) rfl rfl rfl dX12_goesOn_245 ?_
    refine ev_aload_n (pc := 246) (i := 0) rfl rfl rfl dX12_goesOn_246 ?_
    obtain ⟨g128, h129⟩ := qk_el h127; clear h127
    obtain ⟨x130, e131, h132⟩ := qv_el h129; clear h129
    refine xv_getIv (pc := 247) fn_927 (isb_el g128) e131 gw_1167 dX12_goesOn_247 ?_
    refine ev_iload (pc := 250) (i := 5) rfl dX12_goesOn_250 ?_
    refine ev_iload_n (pc := 252) (i := 1) rfl rfl dX12_goesOn_252 ?_
    refine ev_lload (pc := 253) (i := 11) rfl dX12_goesOn_253 ?_
    refine ev_lload (pc := 255) (i := 9) rfl dX12_goesOn_255 ?_
    obtain ⟨x133, S134, e135, h136⟩ := qc_el h132; clear h132
    refine xv_callV (pc := 257) (st := [.long x124]) (as := [.int x130, .int l5, .int l1, .long l11, .long l9]) (v := (some (.long x133))) (S' := S134) ok_X12_turn (e_X12_turn e135) (isb_el g128) (by omega) rfl (Nat.le_of_ble_eq_true rfl) rfl gw_1508 dX12_goesOn_257 ?_
    obtain ⟨x137, e138, h139⟩ := qv_el h136; clear h136
    refine ev_minJ (pc := 260) gw_1512 gw_1513 gw_22 gw_1514 e138 rfl (Nat.le_of_ble_eq_true rfl) (by omega) dX12_goesOn_260 ?_
    refine ev_lstore (pc := 263) (L' := [some (.ref l0), some (.int l1), none, none, some (.int l4), some (.int l5), some (.long l6), none, some (.int l8), some (.long l9), none, some (.long x137), none]) (i := 11) (by decide) rfl rfl dX12_goesOn_263 ?_
    refine ev_goto (pc := 265) (tgt := 165) (by decide) dX12_goesOn_265 ?_
    exact ev_weak (qL_s (qL_s (qL_n (qL_n (qL_s (qL_s (qL_s (qL_n (qL_s (qL_s (qL_n (qL_s (qL_n qL_nil))))))))))))) (hk165 _ _ _ _ _ _ _ _ _ _ h139)
  · replace h116 := qi_f h116 c117
    refine ev_iconst (pc := 228) (v := 1) (by decide) dX12_goesOn_228 ?_
    exact ev_ireturn (pc := 229) rfl rfl (qRI_eq h116) dX12_goesOn_229
theorem e_X12_goesOn_165 {X : gk_X} {F : Nat} {dg : Nat} {g : gk_S → Nat → Int32 → Int32 → Int32 → Option (Int32 × gk_S)} (hg : ∀ (S : gk_S) (q0 : Nat) (q1 : Int32) (q2 : Int32) (q3 : Int32) (r : Int32 × gk_S), g S q0 q1 q2 q3 = some r → EvM X m_X12_goesOn dg 0 0 [.ref q0, .int q1, .int q2, .int q3] S (qRI r)) : ∀ (n : Nat) (l0 : Nat) (l1 : Int32) (l4 : Int32) (l5 : Int32) (l6 : Int64) (l8 : Int32) (l9 : Int64) (l11 : Int64) (S : gk_S) (r : (Int32 × gk_S)), f_X12_goesOn_165 F g n l0 l1 l4 l5 l6 l8 l9 l11 S = some r → EvW X m_X12_goesOn (dg + 8) 0 0 165 [some (.ref l0), some (.int l1), none, none, some (.int l4), some (.int l5), some (.long l6), none, some (.int l8), some (.long l9), none, some (.long l11), none] [] S (qRI r) := by
  intro n
  induction n with
  | zero => intro l0 l1 l4 l5 l6 l8 l9 l11 S r h0; rw [f_X12_goesOn_165] at h0; cases h0
  | succ n ih =>
    intro l0 l1 l4 l5 l6 l8 l9 l11 S r h0; rw [f_X12_goesOn_165] at h0
    refine ev_lload (pc := 165) (i := 11) rfl dX12_goesOn_165 ?_
    refine ev_lload (pc := 167) (i := 9) rfl dX12_goesOn_167 ?_
    refine ev_lcmp (pc := 169)  dX12_goesOn_169 ?_
    refine ev_if_ge (pc := 170) (tgt := 268) (by decide) dX12_goesOn_170 (fun c61 => ?_) (fun c61 => ?_)
    · replace h0 := qi_t h0 (lc_ge c61)
      refine ev_aload_n (pc := 268) (i := 0) rfl rfl rfl dX12_goesOn_268 ?_
      obtain ⟨g63, h64⟩ := qk_el h0; clear h0
      obtain ⟨b65, e66, h67⟩ := qP_el h64; clear h64
      refine xv_getP (pc := 269) fn_929 (isb_el g63) e66 gw_1169 dX12_goesOn_269 ?_
      refine ev_iload (pc := 272) (i := 8) rfl dX12_goesOn_272 ?_
      refine ev_iconst (pc := 274) (v := 1) (by decide) dX12_goesOn_274 ?_
      obtain ⟨g68, h69⟩ := qk_el h67; clear h67
      obtain ⟨g70, h71⟩ := qk_el h69; clear h69
      obtain ⟨S72, e73, h74⟩ := qv_el h71; clear h71
      refine yv_zast (pc := 275) (isb_el g68) rfl (inb_el g70) e73 dX12_goesOn_275 ?_
      refine ev_aload_n (pc := 276) (i := 0) rfl rfl rfl dX12_goesOn_276 ?_
      obtain ⟨b75, e76, h77⟩ := qP_el h74; clear h74
      refine xv_getP (pc := 277) fn_928 (is_wI (isb_el g63) e73) e76 gw_1168 dX12_goesOn_277 ?_
      refine ev_iload (pc := 280) (i := 8) rfl dX12_goesOn_280 ?_
      refine ev_lload (pc := 282) (i := 6) rfl dX12_goesOn_282 ?_
      obtain ⟨g78, h79⟩ := qk_el h77; clear h77
      obtain ⟨g80, h81⟩ := qk_el h79; clear h79
      obtain ⟨S82, e83, h84⟩ := qv_el h81; clear h81
      refine yv_last (pc := 284) (isb_el g78) (inb_el g80) e83 dX12_goesOn_284 ?_
      refine ev_iconst (pc := 285) (v := 0) (by decide) dX12_goesOn_285 ?_
      exact ev_ireturn (pc := 286) rfl rfl (qRI_eq h84) dX12_goesOn_286
    · replace h0 := qi_f h0 (lc_geN c61)
      refine ev_aload_n (pc := 173) (i := 0) rfl rfl rfl dX12_goesOn_173 ?_
      obtain ⟨g85, h86⟩ := qk_el h0; clear h0
      obtain ⟨b87, e88, h89⟩ := qP_el h86; clear h86
      refine xv_getP (pc := 174) fn_924 (isb_el g85) e88 gw_1164 dX12_goesOn_174 ?_
      refine ev_iload_n (pc := 177) (i := 1) rfl rfl dX12_goesOn_177 ?_
      refine ev_lload (pc := 178) (i := 11) rfl dX12_goesOn_178 ?_
      obtain ⟨g90, h91⟩ := qk_el h89; clear h89
      obtain ⟨g92, h93⟩ := qk_el h91; clear h91
      obtain ⟨S94, e95, h96⟩ := qv_el h93; clear h93
      refine yv_last (pc := 180) (isb_el g90) (inb_el g92) e95 dX12_goesOn_180 ?_
      refine ev_aload_n (pc := 181) (i := 0) rfl rfl rfl dX12_goesOn_181 ?_
      refine ev_iload_n (pc := 182) (i := 1) rfl rfl dX12_goesOn_182 ?_
      refine ev_iconst (pc := 183) (v := 1) (by decide) dX12_goesOn_183 ?_
      refine ev_iadd (pc := 184)  dX12_goesOn_184 ?_
      refine ev_aload_n (pc := 185) (i := 0) rfl rfl rfl dX12_goesOn_185 ?_
      refine ev_aload_n (pc := 186) (i := 0) rfl rfl rfl dX12_goesOn_186 ?_
      obtain ⟨x97, e98, h99⟩ := qv_el h96; clear h96
      refine xv_getIv (pc := 187) fn_926 (is_wJ (isb_el g85) e95) e98 gw_1166 dX12_goesOn_187 ?_
      refine ev_iload (pc := 190) (i := 4) rfl dX12_goesOn_190 ?_
      refine ev_iload_n (pc := 192) (i := 1) rfl rfl dX12_goesOn_192 ?_
      refine ev_lload (pc := 193) (i := 11) rfl dX12_goesOn_193 ?_
      obtain ⟨x100, S101, e102, h103⟩ := qc_el h99; clear h99
      refine xv_callV (pc := 195) (st := [.int (l1 + 1), .ref l0]) (as := [.int x97, .int l4, .int l1, .long l11]) (v := (some (.int x100))) (S' := S101) ok_X12_left (e_X12_left e102) (is_wJ (isb_el g85) e95) (by omega) rfl (Nat.le_of_ble_eq_true rfl) rfl gw_1500 dX12_goesOn_195 ?_
      refine ev_aload_n (pc := 198) (i := 0) rfl rfl rfl dX12_goesOn_198 ?_
      obtain ⟨g104, h105⟩ := qk_el h103; clear h103
      obtain ⟨x106, e107, h108⟩ := qv_el h105; clear h105
      refine xv_getIv (pc := 199) fn_930 (isb_el g104) e107 gw_1170 dX12_goesOn_199 ?_
      refine ev_if_ge (pc := 202) (tgt := 221) (by decide) dX12_goesOn_202 (fun c109 => ?_) (fun c109 => ?_)
      · replace h108 := qi_t h108 c109
        refine ev_iconst (pc := 221) (v := 0) (by decide) dX12_goesOn_221 ?_
        exact ev_weak (qL_s (qL_s (qL_n (qL_n (qL_s (qL_s (qL_s (qL_n (qL_s (qL_s (qL_n (qL_s (qL_n qL_nil))))))))))))) (e_X12_goesOn_222 hg ih h108)
      · replace h108 := qi_f h108 c109
        refine ev_aload_n (pc := 205) (i := 0) rfl rfl rfl dX12_goesOn_205 ?_
        refine ev_aload_n (pc := 206) (i := 0) rfl rfl rfl dX12_goesOn_206 ?_
        obtain ⟨x140, e141, h142⟩ := qv_el h108; clear h108
        refine xv_getIv (pc := 207) fn_927 (isb_el g104) e141 gw_1167 dX12_goesOn_207 ?_
        refine ev_iload (pc := 210) (i := 5) rfl dX12_goesOn_210 ?_
        refine ev_iload_n (pc := 212) (i := 1) rfl rfl dX12_goesOn_212 ?_
        refine ev_lload (pc := 213) (i := 11) rfl dX12_goesOn_213 ?_
        obtain ⟨x143, S144, e145, h146⟩ := qc_el h142; clear h142
        refine xv_callV (pc := 215) (st := [.int x100, .int (l1 + 1), .ref l0]) (as := [.int x140, .int l5, .int l1, .long l11]) (v := (some (.int x143))) (S' := S144) ok_X12_left (e_X12_left e145) (isb_el g104) (by omega) rfl (Nat.le_of_ble_eq_true rfl) rfl gw_1500 dX12_goesOn_215 ?_
        refine ev_goto (pc := 218) (tgt := 222) (by decide) dX12_goesOn_218 ?_
        exact ev_weak (qL_s (qL_s (qL_n (qL_n (qL_s (qL_s (qL_s (qL_n (qL_s (qL_s (qL_n (qL_s (qL_n qL_nil))))))))))))) (e_X12_goesOn_222 hg ih h146)
theorem e_X12_goesOn_149 {X : gk_X} {F : Nat} {dg : Nat} {g : gk_S → Nat → Int32 → Int32 → Int32 → Option (Int32 × gk_S)} (hg : ∀ (S : gk_S) (q0 : Nat) (q1 : Int32) (q2 : Int32) (q3 : Int32) (r : Int32 × gk_S), g S q0 q1 q2 q3 = some r → EvM X m_X12_goesOn dg 0 0 [.ref q0, .int q1, .int q2, .int q3] S (qRI r)) {l0 : Nat} {l1 : Int32} {l4 : Int32} {l5 : Int32} {l6 : Int64} {l8 : Int32} {S : gk_S} {r : (Int32 × gk_S)} (h0 : f_X12_goesOn_149 F g l0 l1 l4 l5 l6 l8 S = some r) : EvW X m_X12_goesOn (dg + 8) 0 0 149 [some (.ref l0), some (.int l1), none, none, some (.int l4), some (.int l5), some (.long l6), none, some (.int l8), none, none, none, none] [] S (qRI r) := by
  unfold f_X12_goesOn_149 at h0
  refine ev_aload_n (pc := 149) (i := 0) rfl rfl rfl dX12_goesOn_149 ?_
  refine ev_iload_n (pc := 150) (i := 1) rfl rfl dX12_goesOn_150 ?_
  obtain ⟨g49, h50⟩ := qk_el h0; clear h0
  obtain ⟨x51, S52, e53, h54⟩ := qc_el h50; clear h50
  refine xv_callV (pc := 151) (st := []) (as := [.int l1]) (v := (some (.long x51))) (S' := S52) ok_X12_highest (e_X12_highest e53) (isb_el g49) (by omega) rfl (Nat.le_of_ble_eq_true rfl) rfl gw_1472 dX12_goesOn_151 ?_
  refine ev_lconst (pc := 154) (v := 1) (by decide) dX12_goesOn_154 ?_
  refine ev_ladd (pc := 155)  dX12_goesOn_155 ?_
  refine ev_lstore (pc := 156) (L' := [some (.ref l0), some (.int l1), none, none, some (.int l4), some (.int l5), some (.long l6), none, some (.int l8), some (.long (x51 + 1)), none, none, none]) (i := 9) (by decide) rfl rfl dX12_goesOn_156 ?_
  refine ev_aload_n (pc := 158) (i := 0) rfl rfl rfl dX12_goesOn_158 ?_
  refine ev_iload_n (pc := 159) (i := 1) rfl rfl dX12_goesOn_159 ?_
  obtain ⟨g55, h56⟩ := qk_el h54; clear h54
  obtain ⟨x57, S58, e59, h60⟩ := qc_el h56; clear h56
  refine xv_callV (pc := 160) (st := []) (as := [.int l1]) (v := (some (.long x57))) (S' := S58) ok_X12_lowest (e_X12_lowest e59) (isb_el g55) (by omega) rfl (Nat.le_of_ble_eq_true rfl) rfl gw_1468 dX12_goesOn_160 ?_
  refine ev_lstore (pc := 163) (L' := [some (.ref l0), some (.int l1), none, none, some (.int l4), some (.int l5), some (.long l6), none, some (.int l8), some (.long (x51 + 1)), none, some (.long x57), none]) (i := 11) (by decide) rfl rfl dX12_goesOn_163 ?_
  exact ev_weak (qL_s (qL_s (qL_n (qL_n (qL_s (qL_s (qL_s (qL_n (qL_s (qL_s (qL_n (qL_s (qL_n qL_nil))))))))))))) (e_X12_goesOn_165 hg F _ _ _ _ _ _ _ _ _ _ h60)
theorem e_X12_goesOn_44 {X : gk_X} {F : Nat} {dg : Nat} {g : gk_S → Nat → Int32 → Int32 → Int32 → Option (Int32 × gk_S)} (hg : ∀ (S : gk_S) (q0 : Nat) (q1 : Int32) (q2 : Int32) (q3 : Int32) (r : Int32 × gk_S), g S q0 q1 q2 q3 = some r → EvM X m_X12_goesOn dg 0 0 [.ref q0, .int q1, .int q2, .int q3] S (qRI r)) {l0 : Nat} {l1 : Int32} {l4 : Int32} {s0 : Int32} {S : gk_S} {r : (Int32 × gk_S)} (h0 : f_X12_goesOn_44 F g l0 l1 l4 s0 S = some r) : EvW X m_X12_goesOn (dg + 8) 0 0 44 [some (.ref l0), some (.int l1), none, none, some (.int l4), none, none, none, none, none, none, none, none] [.int s0] S (qRI r) := by
  unfold f_X12_goesOn_44 at h0
  refine ev_istore (pc := 44) (L' := [some (.ref l0), some (.int l1), none, none, some (.int l4), some (.int s0), none, none, none, none, none, none, none]) (i := 5) (by decide) rfl rfl dX12_goesOn_44 ?_
  refine ev_iload_n (pc := 46) (i := 1) rfl rfl dX12_goesOn_46 ?_
  refine ev_bipush (pc := 47) (v := 6) (by decide) dX12_goesOn_47 ?_
  refine ev_ic_ne (pc := 49) (tgt := 83) (by decide) dX12_goesOn_49 (fun c15 => ?_) (fun c15 => ?_)
  · replace h0 := qi_f h0 c15
    refine ev_aload_n (pc := 83) (i := 0) rfl rfl rfl dX12_goesOn_83 ?_
    refine ev_iload (pc := 84) (i := 4) rfl dX12_goesOn_84 ?_
    refine ev_iload (pc := 86) (i := 5) rfl dX12_goesOn_86 ?_
    refine ev_iload_n (pc := 88) (i := 1) rfl rfl dX12_goesOn_88 ?_
    obtain ⟨g17, h18⟩ := qk_el h0; clear h0
    obtain ⟨x19, S20, e21, h22⟩ := qc_el h18; clear h18
    refine xv_callV (pc := 89) (st := []) (as := [.int l4, .int s0, .int l1]) (v := (some (.int x19))) (S' := S20) ok_X12_isHopeless (e_X12_isHopeless e21) (isb_el g17) (by omega) rfl (Nat.le_of_ble_eq_true rfl) rfl gw_1488 dX12_goesOn_89 ?_
    refine ev_if_eq (pc := 92) (tgt := 97) (by decide) dX12_goesOn_92 (fun c23 => ?_) (fun c23 => ?_)
    · replace h22 := qi_t h22 c23
      refine ev_iload_n (pc := 97) (i := 1) rfl rfl dX12_goesOn_97 ?_
      refine ev_i2l (pc := 98)  dX12_goesOn_98 ?_
      refine ev_bipush (pc := 99) (v := 32) (by decide) dX12_goesOn_99 ?_
      refine ev_lshl (pc := 101)  dX12_goesOn_101 ?_
      refine ev_iload (pc := 102) (i := 4) rfl dX12_goesOn_102 ?_
      refine ev_i2l (pc := 104)  dX12_goesOn_104 ?_
      refine ev_bipush (pc := 105) (v := 16) (by decide) dX12_goesOn_105 ?_
      refine ev_lshl (pc := 107)  dX12_goesOn_107 ?_
      refine ev_lor (pc := 108)  dX12_goesOn_108 ?_
      obtain ⟨x25, e26, h27⟩ := qv_el h22; clear h22
      refine xv_topl e26 ?_
      refine ev_iload (pc := 109) (i := 5) rfl dX12_goesOn_109 ?_
      refine ev_i2l (pc := 111)  dX12_goesOn_111 ?_
      refine ev_lor (pc := 112)  dX12_goesOn_112 ?_
      refine ev_lconst (pc := 113) (v := 1) (by decide) dX12_goesOn_113 ?_
      refine ev_ladd (pc := 114)  dX12_goesOn_114 ?_
      obtain ⟨x28, e29, h30⟩ := qv_el h27; clear h27
      refine xv_topl e29 ?_
      refine ev_lstore (pc := 115) (L' := [some (.ref l0), some (.int l1), none, none, some (.int l4), some (.int s0), some (.long x28), none, none, none, none, none, none]) (i := 6) (by decide) rfl rfl dX12_goesOn_115 ?_
      refine ev_lload (pc := 117) (i := 6) rfl dX12_goesOn_117 ?_
      obtain ⟨x31, S32, e33, h34⟩ := qc_el h30; clear h30
      refine xv_callS (pc := 119) (st := []) (as := [.long x28]) (v := (some (.int x31))) (S' := S32) ok_X12_placeOf (e_X12_placeOf e33) (by omega) rfl (Nat.le_of_ble_eq_true rfl) rfl gw_1496 dX12_goesOn_119 ?_
      refine ev_istore (pc := 122) (L' := [some (.ref l0), some (.int l1), none, none, some (.int l4), some (.int s0), some (.long x28), none, some (.int x31), none, none, none, none]) (i := 8) (by decide) rfl rfl dX12_goesOn_122 ?_
      refine ev_aload_n (pc := 124) (i := 0) rfl rfl rfl dX12_goesOn_124 ?_
      obtain ⟨g35, h36⟩ := qk_el h34; clear h34
      obtain ⟨b37, e38, h39⟩ := qP_el h36; clear h36
      refine xv_getP (pc := 125) fn_929 (isb_el g35) e38 gw_1169 dX12_goesOn_125 ?_
      refine ev_iload (pc := 128) (i := 8) rfl dX12_goesOn_128 ?_
      obtain ⟨g40, h41⟩ := qk_el h39; clear h39
      obtain ⟨g42, h43⟩ := qk_el h41; clear h41
      obtain ⟨x44, e45, h46⟩ := qv_el h43; clear h43
      refine yv_zald (pc := 130) (isb_el g40) (inb_el g42) e45 dX12_goesOn_130 ?_
      refine ev_if_eq (pc := 131) (tgt := 149) (by decide) dX12_goesOn_131 (fun c47 => ?_) (fun c47 => ?_)
      · replace h46 := qi_t h46 c47
        exact ev_weak (qL_s (qL_s (qL_n (qL_n (qL_s (qL_s (qL_s (qL_n (qL_s (qL_n (qL_n (qL_n (qL_n qL_nil))))))))))))) (e_X12_goesOn_149 hg h46)
      · replace h46 := qi_f h46 c47
        refine ev_aload_n (pc := 134) (i := 0) rfl rfl rfl dX12_goesOn_134 ?_
        obtain ⟨b147, e148, h149⟩ := qP_el h46; clear h46
        refine xv_getP (pc := 135) fn_928 (isb_el g35) e148 gw_1168 dX12_goesOn_135 ?_
        refine ev_iload (pc := 138) (i := 8) rfl dX12_goesOn_138 ?_
        obtain ⟨g150, h151⟩ := qk_el h149; clear h149
        obtain ⟨g152, h153⟩ := qk_el h151; clear h151
        obtain ⟨x154, e155, h156⟩ := qv_el h153; clear h153
        refine yv_lald (pc := 140) (isb_el g150) (inb_el g152) e155 dX12_goesOn_140 ?_
        refine ev_lload (pc := 141) (i := 6) rfl dX12_goesOn_141 ?_
        refine ev_lcmp (pc := 143)  dX12_goesOn_143 ?_
        refine ev_if_ne (pc := 144) (tgt := 149) (by decide) dX12_goesOn_144 (fun c157 => ?_) (fun c157 => ?_)
        · replace h156 := qi_f h156 (lc_eqN c157)
          exact ev_weak (qL_s (qL_s (qL_n (qL_n (qL_s (qL_s (qL_s (qL_n (qL_s (qL_n (qL_n (qL_n (qL_n qL_nil))))))))))))) (e_X12_goesOn_149 hg h156)
        · replace h156 := qi_t h156 (lc_eq c157)
          refine ev_iconst (pc := 147) (v := 0) (by decide) dX12_goesOn_147 ?_
          exact ev_ireturn (pc := 148) rfl rfl (qRI_eq h156) dX12_goesOn_148
    · replace h22 := qi_f h22 c23
      refine ev_iconst (pc := 95) (v := 0) (by decide) dX12_goesOn_95 ?_
      exact ev_ireturn (pc := 96) rfl rfl (qRI_eq h22) dX12_goesOn_96
  · replace h0 := qi_t h0 c15
    refine ev_aload_n (pc := 52) (i := 0) rfl rfl rfl dX12_goesOn_52 ?_
    refine ev_iload (pc := 53) (i := 4) rfl dX12_goesOn_53 ?_
    refine ev_iload (pc := 55) (i := 5) rfl dX12_goesOn_55 ?_
    obtain ⟨g159, h160⟩ := qk_el h0; clear h0
    obtain ⟨x161, S162, e163, h164⟩ := qc_el h160; clear h160
    refine xv_callV (pc := 57) (st := []) (as := [.int l4, .int s0]) (v := (some (.int x161))) (S' := S162) ok_X12_stateOf (e_X12_stateOf e163) (isb_el g159) (by omega) rfl (Nat.le_of_ble_eq_true rfl) rfl gw_1480 dX12_goesOn_57 ?_
    refine ev_istore (pc := 60) (L' := [some (.ref l0), some (.int l1), none, none, some (.int l4), some (.int s0), some (.int x161), none, none, none, none, none, none]) (i := 6) (by decide) rfl rfl dX12_goesOn_60 ?_
    refine ev_aload_n (pc := 62) (i := 0) rfl rfl rfl dX12_goesOn_62 ?_
    obtain ⟨g165, h166⟩ := qk_el h164; clear h164
    obtain ⟨b167, e168, h169⟩ := qP_el h166; clear h166
    refine xv_getP (pc := 63) fn_924 (isb_el g165) e168 gw_1164 dX12_goesOn_63 ?_
    refine ev_bipush (pc := 66) (v := 6) (by decide) dX12_goesOn_66 ?_
    refine ev_iload (pc := 68) (i := 6) rfl dX12_goesOn_68 ?_
    refine ev_i2l (pc := 70)  dX12_goesOn_70 ?_
    obtain ⟨g170, h171⟩ := qk_el h169; clear h169
    obtain ⟨g172, h173⟩ := qk_el h171; clear h171
    obtain ⟨S174, e175, h176⟩ := qv_el h173; clear h173
    refine yv_last (pc := 71) (isb_el g170) (inb_el g172) e175 dX12_goesOn_71 ?_
    refine ev_iload (pc := 72) (i := 6) rfl dX12_goesOn_72 ?_
    refine ev_if_lt (pc := 74) (tgt := 81) (by decide) dX12_goesOn_74 (fun c177 => ?_) (fun c177 => ?_)
    · replace h176 := qi_t h176 c177
      refine ev_iconst (pc := 81) (v := 0) (by decide) dX12_goesOn_81 ?_
      exact ev_ireturn (pc := 82) rfl rfl (qRI_eq h176) dX12_goesOn_82
    · replace h176 := qi_f h176 c177
      refine ev_iconst (pc := 77) (v := 1) (by decide) dX12_goesOn_77 ?_
      refine ev_goto (pc := 78) (tgt := 82) (by decide) dX12_goesOn_78 ?_
      exact ev_ireturn (pc := 82) rfl rfl (qRI_eq h176) dX12_goesOn_82
theorem e_X12_goesOn_21 {X : gk_X} {F : Nat} {dg : Nat} {g : gk_S → Nat → Int32 → Int32 → Int32 → Option (Int32 × gk_S)} (hg : ∀ (S : gk_S) (q0 : Nat) (q1 : Int32) (q2 : Int32) (q3 : Int32) (r : Int32 × gk_S), g S q0 q1 q2 q3 = some r → EvM X m_X12_goesOn dg 0 0 [.ref q0, .int q1, .int q2, .int q3] S (qRI r)) {l0 : Nat} {l1 : Int32} {l3 : Int32} {s0 : Int32} {S : gk_S} {r : (Int32 × gk_S)} (h0 : f_X12_goesOn_21 F g l0 l1 l3 s0 S = some r) : EvW X m_X12_goesOn (dg + 8) 0 0 21 [some (.ref l0), some (.int l1), none, some (.int l3), none, none, none, none, none, none, none, none, none] [.int s0] S (qRI r) := by
  unfold f_X12_goesOn_21 at h0
  refine ev_istore (pc := 21) (L' := [some (.ref l0), some (.int l1), none, some (.int l3), some (.int s0), none, none, none, none, none, none, none, none]) (i := 4) (by decide) rfl rfl dX12_goesOn_21 ?_
  refine ev_aload_n (pc := 23) (i := 0) rfl rfl rfl dX12_goesOn_23 ?_
  obtain ⟨g8, h9⟩ := qk_el h0; clear h0
  obtain ⟨x10, e11, h12⟩ := qv_el h9; clear h9
  refine xv_getIv (pc := 24) fn_930 (isb_el g8) e11 gw_1170 dX12_goesOn_24 ?_
  refine ev_if_ge (pc := 27) (tgt := 43) (by decide) dX12_goesOn_27 (fun c13 => ?_) (fun c13 => ?_)
  · replace h12 := qi_t h12 c13
    refine ev_iconst (pc := 43) (v := 0) (by decide) dX12_goesOn_43 ?_
    exact ev_weak (qL_s (qL_s (qL_n (qL_n (qL_s (qL_n (qL_n (qL_n (qL_n (qL_n (qL_n (qL_n (qL_n qL_nil))))))))))))) (e_X12_goesOn_44 hg h12)
  · replace h12 := qi_f h12 c13
    refine ev_aload_n (pc := 30) (i := 0) rfl rfl rfl dX12_goesOn_30 ?_
    refine ev_aload_n (pc := 31) (i := 0) rfl rfl rfl dX12_goesOn_31 ?_
    obtain ⟨x179, e180, h181⟩ := qv_el h12; clear h12
    refine xv_getIv (pc := 32) fn_927 (isb_el g8) e180 gw_1167 dX12_goesOn_32 ?_
    refine ev_iload_n (pc := 35) (i := 3) rfl rfl dX12_goesOn_35 ?_
    refine ev_iload_n (pc := 36) (i := 1) rfl rfl dX12_goesOn_36 ?_
    obtain ⟨x182, S183, e184, h185⟩ := qc_el h181; clear h181
    refine xv_callV (pc := 37) (st := []) (as := [.int x179, .int l3, .int l1]) (v := (some (.int x182))) (S' := S183) ok_X12_cut (e_X12_cut e184) (isb_el g8) (by omega) rfl (Nat.le_of_ble_eq_true rfl) rfl gw_1460 dX12_goesOn_37 ?_
    refine ev_goto (pc := 40) (tgt := 44) (by decide) dX12_goesOn_40 ?_
    exact ev_weak (qL_s (qL_s (qL_n (qL_n (qL_s (qL_n (qL_n (qL_n (qL_n (qL_n (qL_n (qL_n (qL_n qL_nil))))))))))))) (e_X12_goesOn_44 hg h185)
theorem e_X12_goesOn {X : gk_X} {F : Nat} {dg : Nat} {g : gk_S → Nat → Int32 → Int32 → Int32 → Option (Int32 × gk_S)} (hg : ∀ (S : gk_S) (q0 : Nat) (q1 : Int32) (q2 : Int32) (q3 : Int32) (r : Int32 × gk_S), g S q0 q1 q2 q3 = some r → EvM X m_X12_goesOn dg 0 0 [.ref q0, .int q1, .int q2, .int q3] S (qRI r)) {S : gk_S} {a : Nat} {p0 : Int32} {p1 : Int32} {p2 : Int32} {r : (Int32 × gk_S)} (h0 : f_X12_goesOn F g S a p0 p1 p2 = some r) : EvM X m_X12_goesOn (dg + 8) 0 0 [.ref a, .int p0, .int p1, .int p2] S (qRI r) := by
  unfold f_X12_goesOn at h0
  refine ev_method (by decide +kernel) rfl rfl (Nat.le_of_ble_eq_true rfl) ?_
  show EvW X m_X12_goesOn (dg + 8) 0 0 0 [some (.ref a), some (.int p0), some (.int p1), some (.int p2), none, none, none, none, none, none, none, none, none] [] S _
  refine ev_aload_n (pc := 0) (i := 0) rfl rfl rfl dX12_goesOn_0 ?_
  obtain ⟨g1, h2⟩ := qk_el h0; clear h0
  obtain ⟨x3, e4, h5⟩ := qv_el h2; clear h2
  refine xv_getIv (pc := 1) fn_930 (isb_el g1) e4 gw_1170 dX12_goesOn_1 ?_
  refine ev_if_ge (pc := 4) (tgt := 20) (by decide) dX12_goesOn_4 (fun c6 => ?_) (fun c6 => ?_)
  · replace h5 := qi_t h5 c6
    refine ev_iload_n (pc := 20) (i := 2) rfl rfl dX12_goesOn_20 ?_
    exact ev_weak (qL_s (qL_s (qL_n (qL_s (qL_n (qL_n (qL_n (qL_n (qL_n (qL_n (qL_n (qL_n (qL_n qL_nil))))))))))))) (e_X12_goesOn_21 hg h5)
  · replace h5 := qi_f h5 c6
    refine ev_aload_n (pc := 7) (i := 0) rfl rfl rfl dX12_goesOn_7 ?_
    refine ev_aload_n (pc := 8) (i := 0) rfl rfl rfl dX12_goesOn_8 ?_
    obtain ⟨x186, e187, h188⟩ := qv_el h5; clear h5
    refine xv_getIv (pc := 9) fn_926 (isb_el g1) e187 gw_1166 dX12_goesOn_9 ?_
    refine ev_iload_n (pc := 12) (i := 2) rfl rfl dX12_goesOn_12 ?_
    refine ev_iload_n (pc := 13) (i := 1) rfl rfl dX12_goesOn_13 ?_
    obtain ⟨x189, S190, e191, h192⟩ := qc_el h188; clear h188
    refine xv_callV (pc := 14) (st := []) (as := [.int x186, .int p1, .int p0]) (v := (some (.int x189))) (S' := S190) ok_X12_cut (e_X12_cut e191) (isb_el g1) (by omega) rfl (Nat.le_of_ble_eq_true rfl) rfl gw_1460 dX12_goesOn_14 ?_
    refine ev_goto (pc := 17) (tgt := 21) (by decide) dX12_goesOn_17 ?_
    exact ev_weak (qL_s (qL_s (qL_n (qL_s (qL_n (qL_n (qL_n (qL_n (qL_n (qL_n (qL_n (qL_n (qL_n qL_nil))))))))))))) (e_X12_goesOn_21 hg h192)
theorem e_X12_goesOn_r {X : gk_X} {F : Nat} : ∀ (n : Nat) (S : gk_S) (a : Nat) (p0 p1 p2 : Int32) (r : Int32 × gk_S), f_X12_goesOn_r F n S a p0 p1 p2 = some r → EvM X m_X12_goesOn (8 * n) 0 0 [.ref a, .int p0, .int p1, .int p2] S (qRI r) := by
  intro n
  induction n with
  | zero => intro S a p0 p1 p2 r h0; rw [f_X12_goesOn_r] at h0; cases h0
  | succ n ih =>
    intro S a p0 p1 p2 r h0; rw [f_X12_goesOn_r] at h0
    exact e_X12_goesOn (dg := 8 * n) ih h0
theorem dX12_looks_0 : decode cX12_looks 0 = .ok (.aload_n 0, 1) := by decide +kernel
theorem dX12_looks_1 : decode cX12_looks 1 = .ok (.invokevirtual 327, 3) := by decide +kernel
theorem dX12_looks_4 : decode cX12_looks 4 = .ok (.aload_n 0, 1) := by decide +kernel
theorem dX12_looks_5 : decode cX12_looks 5 = .ok (.iconst 0, 1) := by decide +kernel
theorem dX12_looks_6 : decode cX12_looks 6 = .ok (.iload_n 1, 1) := by decide +kernel
theorem dX12_looks_7 : decode cX12_looks 7 = .ok (.iload_n 2, 1) := by decide +kernel
theorem dX12_looks_8 : decode cX12_looks 8 = .ok (.invokevirtual 320, 3) := by decide +kernel
theorem dX12_looks_11 : decode cX12_looks 11 = .ok (.ifCond .ne 5, 3) := by decide +kernel
theorem dX12_looks_14 : decode cX12_looks 14 = .ok (.iconst 0, 1) := by decide +kernel
theorem dX12_looks_15 : decode cX12_looks 15 = .ok (.ireturn, 1) := by decide +kernel
theorem dX12_looks_16 : decode cX12_looks 16 = .ok (.aload_n 0, 1) := by decide +kernel
theorem dX12_looks_17 : decode cX12_looks 17 = .ok (.iconst 1, 1) := by decide +kernel
theorem dX12_looks_18 : decode cX12_looks 18 = .ok (.putfield 330, 3) := by decide +kernel
theorem dX12_looks_21 : decode cX12_looks 21 = .ok (.iconst 0, 1) := by decide +kernel
theorem dX12_looks_22 : decode cX12_looks 22 = .ok (.istore_n 3, 1) := by decide +kernel
theorem dX12_looks_23 : decode cX12_looks 23 = .ok (.iload_n 3, 1) := by decide +kernel
theorem dX12_looks_24 : decode cX12_looks 24 = .ok (.bipush 7, 2) := by decide +kernel
theorem dX12_looks_26 : decode cX12_looks 26 = .ok (.if_icmp .ge 21, 3) := by decide +kernel
theorem dX12_looks_29 : decode cX12_looks 29 = .ok (.aload_n 0, 1) := by decide +kernel
theorem dX12_looks_30 : decode cX12_looks 30 = .ok (.getfield 74, 3) := by decide +kernel
theorem dX12_looks_33 : decode cX12_looks 33 = .ok (.iload_n 3, 1) := by decide +kernel
theorem dX12_looks_34 : decode cX12_looks 34 = .ok (.aload_n 0, 1) := by decide +kernel
theorem dX12_looks_35 : decode cX12_looks 35 = .ok (.getfield 77, 3) := by decide +kernel
theorem dX12_looks_38 : decode cX12_looks 38 = .ok (.iload_n 3, 1) := by decide +kernel
theorem dX12_looks_39 : decode cX12_looks 39 = .ok (.laload, 1) := by decide +kernel
theorem dX12_looks_40 : decode cX12_looks 40 = .ok (.lastore, 1) := by decide +kernel
theorem dX12_looks_41 : decode cX12_looks 41 = .ok (.iinc 3 1, 3) := by decide +kernel
theorem dX12_looks_44 : decode cX12_looks 44 = .ok (.goto (-21), 3) := by decide +kernel
theorem dX12_looks_47 : decode cX12_looks 47 = .ok (.iconst 1, 1) := by decide +kernel
theorem dX12_looks_48 : decode cX12_looks 48 = .ok (.ireturn, 1) := by decide +kernel
theorem e_X12_looks_23 {X : gk_X} {F : Nat} : ∀ (n : Nat) (l0 : Nat) (l3 : Int32) (S : gk_S) (r : (Int32 × gk_S)), f_X12_looks_23 F n l0 l3 S = some r → EvW X m_X12_looks 65 0 0 23 [some (.ref l0), none, none, some (.int l3)] [] S (qRI r) := by
  intro n
  induction n with
  | zero => intro l0 l3 S r h0; rw [f_X12_looks_23] at h0; cases h0
  | succ n ih =>
    intro l0 l3 S r h0; rw [f_X12_looks_23] at h0
    refine ev_iload_n (pc := 23) (i := 3) rfl rfl dX12_looks_23 ?_
    refine ev_bipush (pc := 24) (v := 7) (by decide) dX12_looks_24 ?_
    refine ev_ic_ge (pc := 26) (tgt := 47) (by decide) dX12_looks_26 (fun c20 => ?_) (fun c20 => ?_)
    · replace h0 := qi_t h0 c20
      refine ev_iconst (pc := 47) (v := 1) (by decide) dX12_looks_47 ?_
      exact ev_ireturn (pc := 48) rfl rfl (qRI_eq h0) dX12_looks_48
    · replace h0 := qi_f h0 c20
      refine ev_aload_n (pc := 29) (i := 0) rfl rfl rfl dX12_looks_29 ?_
      obtain ⟨g22, h23⟩ := qk_el h0; clear h0
      obtain ⟨b24, e25, h26⟩ := qP_el h23; clear h23
      refine xv_getP (pc := 30) fn_923 (isb_el g22) e25 gw_1163 dX12_looks_30 ?_
      refine ev_iload_n (pc := 33) (i := 3) rfl rfl dX12_looks_33 ?_
      refine ev_aload_n (pc := 34) (i := 0) rfl rfl rfl dX12_looks_34 ?_
      obtain ⟨b27, e28, h29⟩ := qP_el h26; clear h26
      refine xv_getP (pc := 35) fn_924 (isb_el g22) e28 gw_1164 dX12_looks_35 ?_
      refine ev_iload_n (pc := 38) (i := 3) rfl rfl dX12_looks_38 ?_
      obtain ⟨g30, h31⟩ := qk_el h29; clear h29
      obtain ⟨g32, h33⟩ := qk_el h31; clear h31
      obtain ⟨x34, e35, h36⟩ := qv_el h33; clear h33
      refine yv_lald (pc := 39) (isb_el g30) (inb_el g32) e35 dX12_looks_39 ?_
      obtain ⟨g37, h38⟩ := qk_el h36; clear h36
      obtain ⟨g39, h40⟩ := qk_el h38; clear h38
      obtain ⟨S41, e42, h43⟩ := qv_el h40; clear h40
      refine yv_last (pc := 40) (isb_el g37) (inb_el g39) e42 dX12_looks_40 ?_
      refine ev_iinc (pc := 41) (L' := [some (.ref l0), none, none, some (.int (l3 + 1))]) (i := 3) (v := (l3 + 1)) rfl rfl (by decide) rfl rfl dX12_looks_41 ?_
      refine ev_goto (pc := 44) (tgt := 23) (by decide) dX12_looks_44 ?_
      exact (ev_weak (qL_s (qL_n (qL_n (qL_s qL_nil)))) (ih _ _ _ _ h43))
theorem e_X12_looks {X : gk_X} {F : Nat} {S : gk_S} {a : Nat} {p0 : Int32} {p1 : Int32} {r : (Int32 × gk_S)} (h0 : f_X12_looks F S a p0 p1 = some r) : EvM X m_X12_looks 65 0 0 [.ref a, .int p0, .int p1] S (qRI r) := by
  unfold f_X12_looks at h0
  refine ev_method (by decide +kernel) rfl rfl (Nat.le_of_ble_eq_true rfl) ?_
  show EvW X m_X12_looks 65 0 0 0 [some (.ref a), some (.int p0), some (.int p1), none] [] S _
  refine ev_aload_n (pc := 0) (i := 0) rfl rfl rfl dX12_looks_0 ?_
  obtain ⟨g1, h2⟩ := qk_el h0; clear h0
  obtain ⟨x3, S4, e5, h6⟩ := qc_el h2; clear h2
  refine xv_callV (pc := 1) (st := []) (as := []) (v := none) (S' := S4) ok_X12_forgetVain (e_X12_forgetVain e5) (isb_el g1) (by decide) rfl (Nat.le_of_ble_eq_true rfl) rfl gw_1452 dX12_looks_1 ?_
  refine ev_aload_n (pc := 4) (i := 0) rfl rfl rfl dX12_looks_4 ?_
  refine ev_iconst (pc := 5) (v := 0) (by decide) dX12_looks_5 ?_
  refine ev_iload_n (pc := 6) (i := 1) rfl rfl dX12_looks_6 ?_
  refine ev_iload_n (pc := 7) (i := 2) rfl rfl dX12_looks_7 ?_
  obtain ⟨g7, h8⟩ := qk_el h6; clear h6
  obtain ⟨x9, S10, e11, h12⟩ := qc_el h8; clear h8
  refine xv_callV (pc := 8) (st := []) (as := [.int 0, .int p0, .int p1]) (v := (some (.int x9))) (S' := S10) ok_X12_goesOn (e_X12_goesOn_r 8 _ _ _ _ _ _ e11) (isb_el g7) (by decide) rfl (Nat.le_of_ble_eq_true rfl) rfl gw_1456 dX12_looks_8 ?_
  refine ev_if_ne (pc := 11) (tgt := 16) (by decide) dX12_looks_11 (fun c13 => ?_) (fun c13 => ?_)
  · replace h12 := qi_f h12 c13
    refine ev_aload_n (pc := 16) (i := 0) rfl rfl rfl dX12_looks_16 ?_
    refine ev_iconst (pc := 17) (v := 1) (by decide) dX12_looks_17 ?_
    obtain ⟨g15, h16⟩ := qk_el h12; clear h12
    obtain ⟨S17, e18, h19⟩ := qv_el h16; clear h16
    refine yv_putI (pc := 18) fn_925 ⟨rfl, rfl⟩ (isb_el g15) e18 gw_1165 dX12_looks_18 ?_
    refine ev_iconst (pc := 21) (v := 0) (by decide) dX12_looks_21 ?_
    refine ev_istore_n (pc := 22) (L' := [some (.ref a), some (.int p0), some (.int p1), some (.int 0)]) (i := 3) rfl (by decide) rfl rfl dX12_looks_22 ?_
    exact ev_weak (qL_s (qL_n (qL_n (qL_s qL_nil)))) (e_X12_looks_23 F _ _ _ _ h19)
  · replace h12 := qi_t h12 c13
    refine ev_iconst (pc := 14) (v := 0) (by decide) dX12_looks_14 ?_
    exact ev_ireturn (pc := 15) rfl rfl (qRI_eq h12) dX12_looks_15
theorem dX12_shadowed_0 : decode cX12_shadowed 0 = .ok (.aload_n 0, 1) := by decide +kernel
theorem dX12_shadowed_1 : decode cX12_shadowed 1 = .ok (.iload_n 1, 1) := by decide +kernel
theorem dX12_shadowed_2 : decode cX12_shadowed 2 = .ok (.invokevirtual 222, 3) := by decide +kernel
theorem dX12_shadowed_5 : decode cX12_shadowed 5 = .ok (.ifCond .ne 30, 3) := by decide +kernel
theorem dX12_shadowed_8 : decode cX12_shadowed 8 = .ok (.aload_n 0, 1) := by decide +kernel
theorem dX12_shadowed_9 : decode cX12_shadowed 9 = .ok (.iload_n 2, 1) := by decide +kernel
theorem dX12_shadowed_10 : decode cX12_shadowed 10 = .ok (.ifCond .lt 13, 3) := by decide +kernel
theorem dX12_shadowed_13 : decode cX12_shadowed 13 = .ok (.iload_n 2, 1) := by decide +kernel
theorem dX12_shadowed_14 : decode cX12_shadowed 14 = .ok (.aload_n 0, 1) := by decide +kernel
theorem dX12_shadowed_15 : decode cX12_shadowed 15 = .ok (.getfield 46, 3) := by decide +kernel
theorem dX12_shadowed_18 : decode cX12_shadowed 18 = .ok (.iload_n 1, 1) := by decide +kernel
theorem dX12_shadowed_19 : decode cX12_shadowed 19 = .ok (.iaload, 1) := by decide +kernel
theorem dX12_shadowed_20 : decode cX12_shadowed 20 = .ok (.if_icmp .lt 7, 3) := by decide +kernel
theorem dX12_shadowed_23 : decode cX12_shadowed 23 = .ok (.iconst 1, 1) := by decide +kernel
theorem dX12_shadowed_24 : decode cX12_shadowed 24 = .ok (.goto 4, 3) := by decide +kernel
theorem dX12_shadowed_27 : decode cX12_shadowed 27 = .ok (.iconst 0, 1) := by decide +kernel
theorem dX12_shadowed_28 : decode cX12_shadowed 28 = .ok (.iconst 2, 1) := by decide +kernel
theorem dX12_shadowed_29 : decode cX12_shadowed 29 = .ok (.invokevirtual 176, 3) := by decide +kernel
theorem dX12_shadowed_32 : decode cX12_shadowed 32 = .ok (.ifCond .eq 5, 3) := by decide +kernel
theorem dX12_shadowed_35 : decode cX12_shadowed 35 = .ok (.iconst 0, 1) := by decide +kernel
theorem dX12_shadowed_36 : decode cX12_shadowed 36 = .ok (.ireturn, 1) := by decide +kernel
theorem dX12_shadowed_37 : decode cX12_shadowed 37 = .ok (.aload_n 0, 1) := by decide +kernel
theorem dX12_shadowed_38 : decode cX12_shadowed 38 = .ok (.iload_n 1, 1) := by decide +kernel
theorem dX12_shadowed_39 : decode cX12_shadowed 39 = .ok (.putfield 289, 3) := by decide +kernel
theorem dX12_shadowed_42 : decode cX12_shadowed 42 = .ok (.aload_n 0, 1) := by decide +kernel
theorem dX12_shadowed_43 : decode cX12_shadowed 43 = .ok (.iload_n 1, 1) := by decide +kernel
theorem dX12_shadowed_44 : decode cX12_shadowed 44 = .ok (.putfield 296, 3) := by decide +kernel
theorem dX12_shadowed_47 : decode cX12_shadowed 47 = .ok (.aload_n 0, 1) := by decide +kernel
theorem dX12_shadowed_48 : decode cX12_shadowed 48 = .ok (.bipush 16, 2) := by decide +kernel
theorem dX12_shadowed_50 : decode cX12_shadowed 50 = .ok (.iload_n 1, 1) := by decide +kernel
theorem dX12_shadowed_51 : decode cX12_shadowed 51 = .ok (.imul, 1) := by decide +kernel
theorem dX12_shadowed_52 : decode cX12_shadowed 52 = .ok (.iload_n 2, 1) := by decide +kernel
theorem dX12_shadowed_53 : decode cX12_shadowed 53 = .ok (.iadd, 1) := by decide +kernel
theorem dX12_shadowed_54 : decode cX12_shadowed 54 = .ok (.putfield 283, 3) := by decide +kernel
theorem dX12_shadowed_57 : decode cX12_shadowed 57 = .ok (.aload_n 0, 1) := by decide +kernel
theorem dX12_shadowed_58 : decode cX12_shadowed 58 = .ok (.iconst 1, 1) := by decide +kernel
theorem dX12_shadowed_59 : decode cX12_shadowed 59 = .ok (.iload_n 2, 1) := by decide +kernel
theorem dX12_shadowed_60 : decode cX12_shadowed 60 = .ok (.ishl, 1) := by decide +kernel
theorem dX12_shadowed_61 : decode cX12_shadowed 61 = .ok (.iconst 1, 1) := by decide +kernel
theorem dX12_shadowed_62 : decode cX12_shadowed 62 = .ok (.isub, 1) := by decide +kernel
theorem dX12_shadowed_63 : decode cX12_shadowed 63 = .ok (.iconst 0, 1) := by decide +kernel
theorem dX12_shadowed_64 : decode cX12_shadowed 64 = .ok (.invokevirtual 334, 3) := by decide +kernel
theorem dX12_shadowed_67 : decode cX12_shadowed 67 = .ok (.ifCond .ne 7, 3) := by decide +kernel
theorem dX12_shadowed_70 : decode cX12_shadowed 70 = .ok (.iconst 1, 1) := by decide +kernel
theorem dX12_shadowed_71 : decode cX12_shadowed 71 = .ok (.goto 4, 3) := by decide +kernel
theorem dX12_shadowed_74 : decode cX12_shadowed 74 = .ok (.iconst 0, 1) := by decide +kernel
theorem dX12_shadowed_75 : decode cX12_shadowed 75 = .ok (.ireturn, 1) := by decide +kernel
theorem e_X12_shadowed_28 {X : gk_X} {F : Nat} {l0 : Nat} {l1 : Int32} {l2 : Int32} {s0 : Int32} {s1 : Nat} {S : gk_S} {r : (Int32 × gk_S)} (h0 : f_X12_shadowed_28 F l0 l1 l2 s0 s1 S = some r) : EvW X m_X12_shadowed 66 0 0 28 [some (.ref l0), some (.int l1), some (.int l2)] [.int s0, .ref s1] S (qRI r) := by
  unfold f_X12_shadowed_28 at h0
  refine ev_iconst (pc := 28) (v := 2) (by decide) dX12_shadowed_28 ?_
  obtain ⟨g11, h12⟩ := qk_el h0; clear h0
  obtain ⟨x13, S14, e15, h16⟩ := qc_el h12; clear h12
  refine xv_callV (pc := 29) (st := []) (as := [.int s0, .int 2]) (v := (some (.int x13))) (S' := S14) ok_X12_throwsIf (e_X12_throwsIf e15) (isb_el g11) (by decide) rfl (Nat.le_of_ble_eq_true rfl) rfl gw_1272 dX12_shadowed_29 ?_
  refine ev_if_eq (pc := 32) (tgt := 37) (by decide) dX12_shadowed_32 (fun c17 => ?_) (fun c17 => ?_)
  · replace h16 := qi_t h16 c17
    refine ev_aload_n (pc := 37) (i := 0) rfl rfl rfl dX12_shadowed_37 ?_
    refine ev_iload_n (pc := 38) (i := 1) rfl rfl dX12_shadowed_38 ?_
    obtain ⟨g19, h20⟩ := qk_el h16; clear h16
    obtain ⟨S21, e22, h23⟩ := qv_el h20; clear h20
    refine yv_putI (pc := 39) fn_926 ⟨rfl, rfl⟩ (isb_el g19) e22 gw_1166 dX12_shadowed_39 ?_
    refine ev_aload_n (pc := 42) (i := 0) rfl rfl rfl dX12_shadowed_42 ?_
    refine ev_iload_n (pc := 43) (i := 1) rfl rfl dX12_shadowed_43 ?_
    obtain ⟨S24, e25, h26⟩ := qv_el h23; clear h23
    refine yv_putI (pc := 44) fn_927 ⟨rfl, rfl⟩ (is_sI (isb_el g19) e22) e25 gw_1167 dX12_shadowed_44 ?_
    refine ev_aload_n (pc := 47) (i := 0) rfl rfl rfl dX12_shadowed_47 ?_
    refine ev_bipush (pc := 48) (v := 16) (by decide) dX12_shadowed_48 ?_
    refine ev_iload_n (pc := 50) (i := 1) rfl rfl dX12_shadowed_50 ?_
    refine ev_imul (pc := 51)  dX12_shadowed_51 ?_
    refine ev_iload_n (pc := 52) (i := 2) rfl rfl dX12_shadowed_52 ?_
    refine ev_iadd (pc := 53)  dX12_shadowed_53 ?_
    obtain ⟨S27, e28, h29⟩ := qv_el h26; clear h26
    refine yv_putI (pc := 54) fn_930 ⟨rfl, rfl⟩ (is_sI (is_sI (isb_el g19) e22) e25) e28 gw_1170 dX12_shadowed_54 ?_
    refine ev_aload_n (pc := 57) (i := 0) rfl rfl rfl dX12_shadowed_57 ?_
    refine ev_iconst (pc := 58) (v := 1) (by decide) dX12_shadowed_58 ?_
    refine ev_iload_n (pc := 59) (i := 2) rfl rfl dX12_shadowed_59 ?_
    refine ev_ishl (pc := 60)  dX12_shadowed_60 ?_
    refine ev_iconst (pc := 61) (v := 1) (by decide) dX12_shadowed_61 ?_
    refine ev_isub (pc := 62)  dX12_shadowed_62 ?_
    refine ev_iconst (pc := 63) (v := 0) (by decide) dX12_shadowed_63 ?_
    obtain ⟨x30, S31, e32, h33⟩ := qc_el h29; clear h29
    refine xv_callV (pc := 64) (st := []) (as := [.int (((1 : Int32) <<< ((l2 : Int32) &&& 31)) - 1), .int 0]) (v := (some (.int x30))) (S' := S31) ok_X12_looks (e_X12_looks e32) (is_sI (is_sI (is_sI (isb_el g19) e22) e25) e28) (by decide) rfl (Nat.le_of_ble_eq_true rfl) rfl gw_1448 dX12_shadowed_64 ?_
    refine ev_if_ne (pc := 67) (tgt := 74) (by decide) dX12_shadowed_67 (fun c34 => ?_) (fun c34 => ?_)
    · replace h33 := qi_f h33 c34
      refine ev_iconst (pc := 74) (v := 0) (by decide) dX12_shadowed_74 ?_
      exact ev_ireturn (pc := 75) rfl rfl (qRI_eq h33) dX12_shadowed_75
    · replace h33 := qi_t h33 c34
      refine ev_iconst (pc := 70) (v := 1) (by decide) dX12_shadowed_70 ?_
      refine ev_goto (pc := 71) (tgt := 75) (by decide) dX12_shadowed_71 ?_
      exact ev_ireturn (pc := 75) rfl rfl (qRI_eq h33) dX12_shadowed_75
  · replace h16 := qi_f h16 c17
    refine ev_iconst (pc := 35) (v := 0) (by decide) dX12_shadowed_35 ?_
    exact ev_ireturn (pc := 36) rfl rfl (qRI_eq h16) dX12_shadowed_36
theorem e_X12_shadowed {X : gk_X} {F : Nat} {S : gk_S} {a : Nat} {p0 : Int32} {p1 : Int32} {r : (Int32 × gk_S)} (h0 : f_X12_shadowed F S a p0 p1 = some r) : EvM X m_X12_shadowed 66 0 0 [.ref a, .int p0, .int p1] S (qRI r) := by
  unfold f_X12_shadowed at h0
  refine ev_method (by decide +kernel) rfl rfl (Nat.le_of_ble_eq_true rfl) ?_
  show EvW X m_X12_shadowed 66 0 0 0 [some (.ref a), some (.int p0), some (.int p1)] [] S _
  refine ev_aload_n (pc := 0) (i := 0) rfl rfl rfl dX12_shadowed_0 ?_
  refine ev_iload_n (pc := 1) (i := 1) rfl rfl dX12_shadowed_1 ?_
  obtain ⟨g1, h2⟩ := qk_el h0; clear h0
  obtain ⟨x3, S4, e5, h6⟩ := qc_el h2; clear h2
  refine xv_callV (pc := 2) (st := []) (as := [.int p0]) (v := (some (.int x3))) (S' := S4) ok_X12_noList (e_X12_noList e5) (isb_el g1) (by decide) rfl (Nat.le_of_ble_eq_true rfl) rfl gw_1387 dX12_shadowed_2 ?_
  refine ev_if_ne (pc := 5) (tgt := 35) (by decide) dX12_shadowed_5 (fun c7 => ?_) (fun c7 => ?_)
  · replace h6 := qi_f h6 c7
    refine ev_iconst (pc := 35) (v := 0) (by decide) dX12_shadowed_35 ?_
    exact ev_ireturn (pc := 36) rfl rfl (qRI_eq h6) dX12_shadowed_36
  · replace h6 := qi_t h6 c7
    refine ev_aload_n (pc := 8) (i := 0) rfl rfl rfl dX12_shadowed_8 ?_
    refine ev_iload_n (pc := 9) (i := 2) rfl rfl dX12_shadowed_9 ?_
    refine ev_if_lt (pc := 10) (tgt := 23) (by decide) dX12_shadowed_10 (fun c9 => ?_) (fun c9 => ?_)
    · replace h6 := qi_t h6 c9
      refine ev_iconst (pc := 23) (v := 1) (by decide) dX12_shadowed_23 ?_
      refine ev_goto (pc := 24) (tgt := 28) (by decide) dX12_shadowed_24 ?_
      exact ev_weak (qL_s (qL_s (qL_s qL_nil))) (e_X12_shadowed_28 h6)
    · replace h6 := qi_f h6 c9
      refine ev_iload_n (pc := 13) (i := 2) rfl rfl dX12_shadowed_13 ?_
      refine ev_aload_n (pc := 14) (i := 0) rfl rfl rfl dX12_shadowed_14 ?_
      obtain ⟨g36, h37⟩ := qk_el h6; clear h6
      obtain ⟨b38, e39, h40⟩ := qP_el h37; clear h37
      refine xv_getP (pc := 15) fn_906 (isb_el g36) e39 gw_1146 dX12_shadowed_15 ?_
      refine ev_iload_n (pc := 18) (i := 1) rfl rfl dX12_shadowed_18 ?_
      obtain ⟨g41, h42⟩ := qk_el h40; clear h40
      obtain ⟨g43, h44⟩ := qk_el h42; clear h42
      obtain ⟨x45, e46, h47⟩ := qv_el h44; clear h44
      refine yv_iald (pc := 19) (isb_el g41) (inb_el g43) e46 dX12_shadowed_19 ?_
      refine ev_ic_lt (pc := 20) (tgt := 27) (by decide) dX12_shadowed_20 (fun c48 => ?_) (fun c48 => ?_)
      · replace h47 := qi_t h47 c48
        refine ev_iconst (pc := 27) (v := 0) (by decide) dX12_shadowed_27 ?_
        exact ev_weak (qL_s (qL_s (qL_s qL_nil))) (e_X12_shadowed_28 h47)
      · replace h47 := qi_f h47 c48
        refine ev_iconst (pc := 23) (v := 1) (by decide) dX12_shadowed_23 ?_
        refine ev_goto (pc := 24) (tgt := 28) (by decide) dX12_shadowed_24 ?_
        exact ev_weak (qL_s (qL_s (qL_s qL_nil))) (e_X12_shadowed_28 h47)
theorem dX12_alike_0 : decode cX12_alike 0 = .ok (.aload_n 0, 1) := by decide +kernel
theorem dX12_alike_1 : decode cX12_alike 1 = .ok (.iload_n 1, 1) := by decide +kernel
theorem dX12_alike_2 : decode cX12_alike 2 = .ok (.invokevirtual 222, 3) := by decide +kernel
theorem dX12_alike_5 : decode cX12_alike 5 = .ok (.ifCond .ne 11, 3) := by decide +kernel
theorem dX12_alike_8 : decode cX12_alike 8 = .ok (.aload_n 0, 1) := by decide +kernel
theorem dX12_alike_9 : decode cX12_alike 9 = .ok (.iload_n 2, 1) := by decide +kernel
theorem dX12_alike_10 : decode cX12_alike 10 = .ok (.invokevirtual 222, 3) := by decide +kernel
theorem dX12_alike_13 : decode cX12_alike 13 = .ok (.ifCond .eq 5, 3) := by decide +kernel
theorem dX12_alike_16 : decode cX12_alike 16 = .ok (.iconst 0, 1) := by decide +kernel
theorem dX12_alike_17 : decode cX12_alike 17 = .ok (.ireturn, 1) := by decide +kernel
theorem dX12_alike_18 : decode cX12_alike 18 = .ok (.aload_n 0, 1) := by decide +kernel
theorem dX12_alike_19 : decode cX12_alike 19 = .ok (.iload_n 1, 1) := by decide +kernel
theorem dX12_alike_20 : decode cX12_alike 20 = .ok (.putfield 289, 3) := by decide +kernel
theorem dX12_alike_23 : decode cX12_alike 23 = .ok (.aload_n 0, 1) := by decide +kernel
theorem dX12_alike_24 : decode cX12_alike 24 = .ok (.iload_n 2, 1) := by decide +kernel
theorem dX12_alike_25 : decode cX12_alike 25 = .ok (.putfield 296, 3) := by decide +kernel
theorem dX12_alike_28 : decode cX12_alike 28 = .ok (.aload_n 0, 1) := by decide +kernel
theorem dX12_alike_29 : decode cX12_alike 29 = .ok (.iconst (-1), 1) := by decide +kernel
theorem dX12_alike_30 : decode cX12_alike 30 = .ok (.putfield 283, 3) := by decide +kernel
theorem dX12_alike_33 : decode cX12_alike 33 = .ok (.aload_n 0, 1) := by decide +kernel
theorem dX12_alike_34 : decode cX12_alike 34 = .ok (.iconst 1, 1) := by decide +kernel
theorem dX12_alike_35 : decode cX12_alike 35 = .ok (.aload_n 0, 1) := by decide +kernel
theorem dX12_alike_36 : decode cX12_alike 36 = .ok (.getfield 46, 3) := by decide +kernel
theorem dX12_alike_39 : decode cX12_alike 39 = .ok (.iload_n 1, 1) := by decide +kernel
theorem dX12_alike_40 : decode cX12_alike 40 = .ok (.iaload, 1) := by decide +kernel
theorem dX12_alike_41 : decode cX12_alike 41 = .ok (.ishl, 1) := by decide +kernel
theorem dX12_alike_42 : decode cX12_alike 42 = .ok (.iconst 1, 1) := by decide +kernel
theorem dX12_alike_43 : decode cX12_alike 43 = .ok (.isub, 1) := by decide +kernel
theorem dX12_alike_44 : decode cX12_alike 44 = .ok (.iconst 1, 1) := by decide +kernel
theorem dX12_alike_45 : decode cX12_alike 45 = .ok (.aload_n 0, 1) := by decide +kernel
theorem dX12_alike_46 : decode cX12_alike 46 = .ok (.getfield 46, 3) := by decide +kernel
theorem dX12_alike_49 : decode cX12_alike 49 = .ok (.iload_n 2, 1) := by decide +kernel
theorem dX12_alike_50 : decode cX12_alike 50 = .ok (.iaload, 1) := by decide +kernel
theorem dX12_alike_51 : decode cX12_alike 51 = .ok (.ishl, 1) := by decide +kernel
theorem dX12_alike_52 : decode cX12_alike 52 = .ok (.iconst 1, 1) := by decide +kernel
theorem dX12_alike_53 : decode cX12_alike 53 = .ok (.isub, 1) := by decide +kernel
theorem dX12_alike_54 : decode cX12_alike 54 = .ok (.invokevirtual 334, 3) := by decide +kernel
theorem dX12_alike_57 : decode cX12_alike 57 = .ok (.ifCond .ne 7, 3) := by decide +kernel
theorem dX12_alike_60 : decode cX12_alike 60 = .ok (.iconst 1, 1) := by decide +kernel
theorem dX12_alike_61 : decode cX12_alike 61 = .ok (.goto 4, 3) := by decide +kernel
theorem dX12_alike_64 : decode cX12_alike 64 = .ok (.iconst 0, 1) := by decide +kernel
theorem dX12_alike_65 : decode cX12_alike 65 = .ok (.ireturn, 1) := by decide +kernel
theorem e_X12_alike {X : gk_X} {F : Nat} {S : gk_S} {a : Nat} {p0 : Int32} {p1 : Int32} {r : (Int32 × gk_S)} (h0 : f_X12_alike F S a p0 p1 = some r) : EvM X m_X12_alike 66 0 0 [.ref a, .int p0, .int p1] S (qRI r) := by
  unfold f_X12_alike at h0
  refine ev_method (by decide +kernel) rfl rfl (Nat.le_of_ble_eq_true rfl) ?_
  show EvW X m_X12_alike 66 0 0 0 [some (.ref a), some (.int p0), some (.int p1)] [] S _
  refine ev_aload_n (pc := 0) (i := 0) rfl rfl rfl dX12_alike_0 ?_
  refine ev_iload_n (pc := 1) (i := 1) rfl rfl dX12_alike_1 ?_
  obtain ⟨g1, h2⟩ := qk_el h0; clear h0
  obtain ⟨x3, S4, e5, h6⟩ := qc_el h2; clear h2
  refine xv_callV (pc := 2) (st := []) (as := [.int p0]) (v := (some (.int x3))) (S' := S4) ok_X12_noList (e_X12_noList e5) (isb_el g1) (by decide) rfl (Nat.le_of_ble_eq_true rfl) rfl gw_1387 dX12_alike_2 ?_
  refine ev_if_ne (pc := 5) (tgt := 16) (by decide) dX12_alike_5 (fun c7 => ?_) (fun c7 => ?_)
  · replace h6 := qi_f h6 c7
    refine ev_iconst (pc := 16) (v := 0) (by decide) dX12_alike_16 ?_
    exact ev_ireturn (pc := 17) rfl rfl (qRI_eq h6) dX12_alike_17
  · replace h6 := qi_t h6 c7
    refine ev_aload_n (pc := 8) (i := 0) rfl rfl rfl dX12_alike_8 ?_
    refine ev_iload_n (pc := 9) (i := 2) rfl rfl dX12_alike_9 ?_
    obtain ⟨g9, h10⟩ := qk_el h6; clear h6
    obtain ⟨x11, S12, e13, h14⟩ := qc_el h10; clear h10
    refine xv_callV (pc := 10) (st := []) (as := [.int p1]) (v := (some (.int x11))) (S' := S12) ok_X12_noList (e_X12_noList e13) (isb_el g9) (by decide) rfl (Nat.le_of_ble_eq_true rfl) rfl gw_1387 dX12_alike_10 ?_
    refine ev_if_eq (pc := 13) (tgt := 18) (by decide) dX12_alike_13 (fun c15 => ?_) (fun c15 => ?_)
    · replace h14 := qi_t h14 c15
      refine ev_aload_n (pc := 18) (i := 0) rfl rfl rfl dX12_alike_18 ?_
      refine ev_iload_n (pc := 19) (i := 1) rfl rfl dX12_alike_19 ?_
      obtain ⟨g17, h18⟩ := qk_el h14; clear h14
      obtain ⟨S19, e20, h21⟩ := qv_el h18; clear h18
      refine yv_putI (pc := 20) fn_926 ⟨rfl, rfl⟩ (isb_el g17) e20 gw_1166 dX12_alike_20 ?_
      refine ev_aload_n (pc := 23) (i := 0) rfl rfl rfl dX12_alike_23 ?_
      refine ev_iload_n (pc := 24) (i := 2) rfl rfl dX12_alike_24 ?_
      obtain ⟨S22, e23, h24⟩ := qv_el h21; clear h21
      refine yv_putI (pc := 25) fn_927 ⟨rfl, rfl⟩ (is_sI (isb_el g17) e20) e23 gw_1167 dX12_alike_25 ?_
      refine ev_aload_n (pc := 28) (i := 0) rfl rfl rfl dX12_alike_28 ?_
      refine ev_iconst (pc := 29) (v := -1) (by decide) dX12_alike_29 ?_
      obtain ⟨S25, e26, h27⟩ := qv_el h24; clear h24
      refine yv_putI (pc := 30) fn_930 ⟨rfl, rfl⟩ (is_sI (is_sI (isb_el g17) e20) e23) e26 gw_1170 dX12_alike_30 ?_
      refine ev_aload_n (pc := 33) (i := 0) rfl rfl rfl dX12_alike_33 ?_
      refine ev_iconst (pc := 34) (v := 1) (by decide) dX12_alike_34 ?_
      refine ev_aload_n (pc := 35) (i := 0) rfl rfl rfl dX12_alike_35 ?_
      obtain ⟨b28, e29, h30⟩ := qP_el h27; clear h27
      refine xv_getP (pc := 36) fn_906 (is_sI (is_sI (is_sI (isb_el g17) e20) e23) e26) e29 gw_1146 dX12_alike_36 ?_
      refine ev_iload_n (pc := 39) (i := 1) rfl rfl dX12_alike_39 ?_
      obtain ⟨g31, h32⟩ := qk_el h30; clear h30
      obtain ⟨g33, h34⟩ := qk_el h32; clear h32
      obtain ⟨x35, e36, h37⟩ := qv_el h34; clear h34
      refine yv_iald (pc := 40) (isb_el g31) (inb_el g33) e36 dX12_alike_40 ?_
      refine ev_ishl (pc := 41)  dX12_alike_41 ?_
      refine ev_iconst (pc := 42) (v := 1) (by decide) dX12_alike_42 ?_
      refine ev_isub (pc := 43)  dX12_alike_43 ?_
      refine ev_iconst (pc := 44) (v := 1) (by decide) dX12_alike_44 ?_
      refine ev_aload_n (pc := 45) (i := 0) rfl rfl rfl dX12_alike_45 ?_
      obtain ⟨b38, e39, h40⟩ := qP_el h37; clear h37
      refine xv_getP (pc := 46) fn_906 (is_sI (is_sI (is_sI (isb_el g17) e20) e23) e26) e39 gw_1146 dX12_alike_46 ?_
      refine ev_iload_n (pc := 49) (i := 2) rfl rfl dX12_alike_49 ?_
      obtain ⟨g41, h42⟩ := qk_el h40; clear h40
      obtain ⟨g43, h44⟩ := qk_el h42; clear h42
      obtain ⟨x45, e46, h47⟩ := qv_el h44; clear h44
      refine yv_iald (pc := 50) (isb_el g41) (inb_el g43) e46 dX12_alike_50 ?_
      refine ev_ishl (pc := 51)  dX12_alike_51 ?_
      refine ev_iconst (pc := 52) (v := 1) (by decide) dX12_alike_52 ?_
      refine ev_isub (pc := 53)  dX12_alike_53 ?_
      obtain ⟨x48, S49, e50, h51⟩ := qc_el h47; clear h47
      refine xv_callV (pc := 54) (st := []) (as := [.int (((1 : Int32) <<< ((x35 : Int32) &&& 31)) - 1), .int (((1 : Int32) <<< ((x45 : Int32) &&& 31)) - 1)]) (v := (some (.int x48))) (S' := S49) ok_X12_looks (e_X12_looks e50) (is_sI (is_sI (is_sI (isb_el g17) e20) e23) e26) (by decide) rfl (Nat.le_of_ble_eq_true rfl) rfl gw_1448 dX12_alike_54 ?_
      refine ev_if_ne (pc := 57) (tgt := 64) (by decide) dX12_alike_57 (fun c52 => ?_) (fun c52 => ?_)
      · replace h51 := qi_f h51 c52
        refine ev_iconst (pc := 64) (v := 0) (by decide) dX12_alike_64 ?_
        exact ev_ireturn (pc := 65) rfl rfl (qRI_eq h51) dX12_alike_65
      · replace h51 := qi_t h51 c52
        refine ev_iconst (pc := 60) (v := 1) (by decide) dX12_alike_60 ?_
        refine ev_goto (pc := 61) (tgt := 65) (by decide) dX12_alike_61 ?_
        exact ev_ireturn (pc := 65) rfl rfl (qRI_eq h51) dX12_alike_65
    · replace h14 := qi_f h14 c15
      refine ev_iconst (pc := 16) (v := 0) (by decide) dX12_alike_16 ?_
      exact ev_ireturn (pc := 17) rfl rfl (qRI_eq h14) dX12_alike_17
