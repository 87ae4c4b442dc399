theorem dX12_found_0 : decode cX12_found 0 = .ok (.aload_n 0, 1) := by decide +kernel
theorem dX12_found_1 : decode cX12_found 1 = .ok (.aload_n 0, 1) := by decide +kernel
theorem dX12_found_2 : decode cX12_found 2 = .ok (.getfield 330, 3) := by decide +kernel
theorem dX12_found_5 : decode cX12_found 5 = .ok (.ifCond .eq 13, 3) := by decide +kernel
theorem dX12_found_8 : decode cX12_found 8 = .ok (.iload_n 1, 1) := by decide +kernel
theorem dX12_found_9 : decode cX12_found 9 = .ok (.ifCond .lt 9, 3) := by decide +kernel
theorem dX12_found_12 : decode cX12_found 12 = .ok (.iload_n 1, 1) := by decide +kernel
theorem dX12_found_13 : decode cX12_found 13 = .ok (.bipush 6, 2) := by decide +kernel
theorem dX12_found_15 : decode cX12_found 15 = .ok (.if_icmp .le 7, 3) := by decide +kernel
theorem dX12_found_18 : decode cX12_found 18 = .ok (.iconst 1, 1) := by decide +kernel
theorem dX12_found_19 : decode cX12_found 19 = .ok (.goto 4, 3) := by decide +kernel
theorem dX12_found_22 : decode cX12_found 22 = .ok (.iconst 0, 1) := by decide +kernel
theorem dX12_found_23 : decode cX12_found 23 = .ok (.iconst 1, 1) := by decide +kernel
theorem dX12_found_24 : decode cX12_found 24 = .ok (.invokevirtual 176, 3) := by decide +kernel
theorem dX12_found_27 : decode cX12_found 27 = .ok (.ifCond .eq 5, 3) := by decide +kernel
theorem dX12_found_30 : decode cX12_found 30 = .ok (.iconst 0, 1) := by decide +kernel
theorem dX12_found_31 : decode cX12_found 31 = .ok (.ireturn, 1) := by decide +kernel
theorem dX12_found_32 : decode cX12_found 32 = .ok (.aload_n 0, 1) := by decide +kernel
theorem dX12_found_33 : decode cX12_found 33 = .ok (.getfield 74, 3) := by decide +kernel
theorem dX12_found_36 : decode cX12_found 36 = .ok (.iload_n 1, 1) := by decide +kernel
theorem dX12_found_37 : decode cX12_found 37 = .ok (.laload, 1) := by decide +kernel
theorem dX12_found_38 : decode cX12_found 38 = .ok (.l2i, 1) := by decide +kernel
theorem dX12_found_39 : decode cX12_found 39 = .ok (.ireturn, 1) := by decide +kernel
theorem e_X12_found_23 {X : gk_X} {F : Nat} {l0 : Nat} {l1 : Int32} {s0 : Int32} {s1 : Nat} {S : gk_S} {r : (Int32 × gk_S)} (h0 : f_X12_found_23 F l0 l1 s0 s1 S = some r) : EvW X m_X12_found 2 0 0 23 [some (.ref l0), some (.int l1)] [.int s0, .ref s1] S (qRI r) := by
  unfold f_X12_found_23 at h0
  refine ev_iconst (pc := 23) (v := 1) (by decide) dX12_found_23 ?_
  obtain ⟨g8, h9⟩ := qk_el h0; clear h0
  obtain ⟨x10, S11, e12, h13⟩ := qc_el h9; clear h9
  refine xv_callV (pc := 24) (st := []) (as := [.int s0, .int 1]) (v := (some (.int x10))) (S' := S11) ok_X12_throwsIf (e_X12_throwsIf e12) (isb_el g8) (by decide) rfl (Nat.le_of_ble_eq_true rfl) rfl gw_1272 dX12_found_24 ?_
  refine ev_if_eq (pc := 27) (tgt := 32) (by decide) dX12_found_27 (fun c14 => ?_) (fun c14 => ?_)
  · replace h13 := qi_t h13 c14
    refine ev_aload_n (pc := 32) (i := 0) rfl rfl rfl dX12_found_32 ?_
    obtain ⟨g16, h17⟩ := qk_el h13; clear h13
    obtain ⟨b18, e19, h20⟩ := qP_el h17; clear h17
    refine xv_getP (pc := 33) fn_923 (isb_el g16) e19 gw_1163 dX12_found_33 ?_
    refine ev_iload_n (pc := 36) (i := 1) rfl rfl dX12_found_36 ?_
    obtain ⟨g21, h22⟩ := qk_el h20; clear h20
    obtain ⟨g23, h24⟩ := qk_el h22; clear h22
    obtain ⟨x25, e26, h27⟩ := qv_el h24; clear h24
    refine yv_lald (pc := 37) (isb_el g21) (inb_el g23) e26 dX12_found_37 ?_
    refine ev_l2i (pc := 38)  dX12_found_38 ?_
    exact ev_ireturn (pc := 39) rfl (nar_int _) (qRI_eq h27) dX12_found_39
  · replace h13 := qi_f h13 c14
    refine ev_iconst (pc := 30) (v := 0) (by decide) dX12_found_30 ?_
    exact ev_ireturn (pc := 31) rfl (nar_int _) (qRI_eq h13) dX12_found_31
theorem e_X12_found {X : gk_X} {F : Nat} {S : gk_S} {a : Nat} {p0 : Int32} {r : (Int32 × gk_S)} (h0 : f_X12_found F S a p0 = some r) : EvM X m_X12_found 2 0 0 [.ref a, .int p0] S (qRI r) := by
  unfold f_X12_found at h0
  refine ev_method (by decide +kernel) rfl rfl (Nat.le_of_ble_eq_true rfl) ?_
  show EvW X m_X12_found 2 0 0 0 [some (.ref a), some (.int p0)] [] S _
  refine ev_aload_n (pc := 0) (i := 0) rfl rfl rfl dX12_found_0 ?_
  refine ev_aload_n (pc := 1) (i := 0) rfl rfl rfl dX12_found_1 ?_
  obtain ⟨g1, h2⟩ := qk_el h0; clear h0
  obtain ⟨x3, e4, h5⟩ := qv_el h2; clear h2
  refine xv_getIv (pc := 2) fn_925 (isb_el g1) e4 gw_1165 dX12_found_2 ?_
  refine ev_if_eq (pc := 5) (tgt := 18) (by decide) dX12_found_5 (fun c6 => ?_) (fun c6 => ?_)
  · replace h5 := qi_t h5 c6
    refine ev_iconst (pc := 18) (v := 1) (by decide) dX12_found_18 ?_
    refine ev_goto (pc := 19) (tgt := 23) (by decide) dX12_found_19 ?_
    exact ev_weak (qL_s (qL_s qL_nil)) (e_X12_found_23 h5)
  · replace h5 := qi_f h5 c6
    refine ev_iload_n (pc := 8) (i := 1) rfl rfl dX12_found_8 ?_
    refine ev_if_lt (pc := 9) (tgt := 18) (by decide) dX12_found_9 (fun c28 => ?_) (fun c28 => ?_)
    · replace h5 := qi_t h5 c28
      refine ev_iconst (pc := 18) (v := 1) (by decide) dX12_found_18 ?_
      refine ev_goto (pc := 19) (tgt := 23) (by decide) dX12_found_19 ?_
      exact ev_weak (qL_s (qL_s qL_nil)) (e_X12_found_23 h5)
    · replace h5 := qi_f h5 c28
      refine ev_iload_n (pc := 12) (i := 1) rfl rfl dX12_found_12 ?_
      refine ev_bipush (pc := 13) (v := 6) (by decide) dX12_found_13 ?_
      refine ev_ic_le (pc := 15) (tgt := 22) (by decide) dX12_found_15 (fun c30 => ?_) (fun c30 => ?_)
      · replace h5 := qi_t h5 c30
        refine ev_iconst (pc := 22) (v := 0) (by decide) dX12_found_22 ?_
        exact ev_weak (qL_s (qL_s qL_nil)) (e_X12_found_23 h5)
      · replace h5 := qi_f h5 c30
        refine ev_iconst (pc := 18) (v := 1) (by decide) dX12_found_18 ?_
        refine ev_goto (pc := 19) (tgt := 23) (by decide) dX12_found_19 ?_
        exact ev_weak (qL_s (qL_s qL_nil)) (e_X12_found_23 h5)
theorem dX7_needed_0 : decode cX7_needed 0 = .ok (.aload_n 0, 1) := by decide +kernel
theorem dX7_needed_1 : decode cX7_needed 1 = .ok (.aload_n 1, 1) := by decide +kernel
theorem dX7_needed_2 : decode cX7_needed 2 = .ok (.aload_n 1, 1) := by decide +kernel
theorem dX7_needed_3 : decode cX7_needed 3 = .ok (.getfield 46, 3) := by decide +kernel
theorem dX7_needed_6 : decode cX7_needed 6 = .ok (.aload_n 1, 1) := by decide +kernel
theorem dX7_needed_7 : decode cX7_needed 7 = .ok (.aload_n 1, 1) := by decide +kernel
theorem dX7_needed_8 : decode cX7_needed 8 = .ok (.getfield 46, 3) := by decide +kernel
theorem dX7_needed_11 : decode cX7_needed 11 = .ok (.invokevirtual 51, 3) := by decide +kernel
theorem dX7_needed_14 : decode cX7_needed 14 = .ok (.aload_n 1, 1) := by decide +kernel
theorem dX7_needed_15 : decode cX7_needed 15 = .ok (.getfield 46, 3) := by decide +kernel
theorem dX7_needed_18 : decode cX7_needed 18 = .ok (.invokestatic 55, 3) := by decide +kernel
theorem dX7_needed_21 : decode cX7_needed 21 = .ok (.istore_n 2, 1) := by decide +kernel
theorem dX7_needed_22 : decode cX7_needed 22 = .ok (.aload_n 1, 1) := by decide +kernel
theorem dX7_needed_23 : decode cX7_needed 23 = .ok (.getfield 46, 3) := by decide +kernel
theorem dX7_needed_26 : decode cX7_needed 26 = .ok (.iconst 1, 1) := by decide +kernel
theorem dX7_needed_27 : decode cX7_needed 27 = .ok (.isub, 1) := by decide +kernel
theorem dX7_needed_28 : decode cX7_needed 28 = .ok (.istore_n 3, 1) := by decide +kernel
theorem dX7_needed_29 : decode cX7_needed 29 = .ok (.iload_n 3, 1) := by decide +kernel
theorem dX7_needed_30 : decode cX7_needed 30 = .ok (.ifCond .lt 45, 3) := by decide +kernel
theorem dX7_needed_33 : decode cX7_needed 33 = .ok (.iload_n 2, 1) := by decide +kernel
theorem dX7_needed_34 : decode cX7_needed 34 = .ok (.iconst 1, 1) := by decide +kernel
theorem dX7_needed_35 : decode cX7_needed 35 = .ok (.iload_n 3, 1) := by decide +kernel
theorem dX7_needed_36 : decode cX7_needed 36 = .ok (.ishl, 1) := by decide +kernel
theorem dX7_needed_37 : decode cX7_needed 37 = .ok (.iconst (-1), 1) := by decide +kernel
theorem dX7_needed_38 : decode cX7_needed 38 = .ok (.ixor, 1) := by decide +kernel
theorem dX7_needed_39 : decode cX7_needed 39 = .ok (.iand, 1) := by decide +kernel
theorem dX7_needed_40 : decode cX7_needed 40 = .ok (.istore 4, 2) := by decide +kernel
theorem dX7_needed_42 : decode cX7_needed 42 = .ok (.aload_n 0, 1) := by decide +kernel
theorem dX7_needed_43 : decode cX7_needed 43 = .ok (.iload_n 2, 1) := by decide +kernel
theorem dX7_needed_44 : decode cX7_needed 44 = .ok (.aload_n 1, 1) := by decide +kernel
theorem dX7_needed_45 : decode cX7_needed 45 = .ok (.getfield 59, 3) := by decide +kernel
theorem dX7_needed_48 : decode cX7_needed 48 = .ok (.invokestatic 62, 3) := by decide +kernel
theorem dX7_needed_51 : decode cX7_needed 51 = .ok (.iload 4, 2) := by decide +kernel
theorem dX7_needed_53 : decode cX7_needed 53 = .ok (.aload_n 1, 1) := by decide +kernel
theorem dX7_needed_54 : decode cX7_needed 54 = .ok (.getfield 59, 3) := by decide +kernel
theorem dX7_needed_57 : decode cX7_needed 57 = .ok (.invokestatic 62, 3) := by decide +kernel
theorem dX7_needed_60 : decode cX7_needed 60 = .ok (.invokevirtual 66, 3) := by decide +kernel
theorem dX7_needed_63 : decode cX7_needed 63 = .ok (.ifCond .ne 6, 3) := by decide +kernel
theorem dX7_needed_66 : decode cX7_needed 66 = .ok (.iload 4, 2) := by decide +kernel
theorem dX7_needed_68 : decode cX7_needed 68 = .ok (.istore_n 2, 1) := by decide +kernel
theorem dX7_needed_69 : decode cX7_needed 69 = .ok (.iinc 3 (-1), 3) := by decide +kernel
theorem dX7_needed_72 : decode cX7_needed 72 = .ok (.goto (-43), 3) := by decide +kernel
theorem dX7_needed_75 : decode cX7_needed 75 = .ok (.iload_n 2, 1) := by decide +kernel
theorem dX7_needed_76 : decode cX7_needed 76 = .ok (.ireturn, 1) := by decide +kernel
theorem e_X7_needed_29 {X : gk_X} {F : Nat} : ∀ (n : Nat) (l0 : Nat) (l1 : Nat) (l2 : Int32) (l3 : Int32) (S : gk_S) (r : (Int32 × gk_S)), f_X7_needed_29 F n l0 l1 l2 l3 S = some r → EvW X m_X7_needed 47 0 0 29 [some (.ref l0), some (.ref l1), some (.int l2), some (.int l3), none] [] S (qRI r) := by
  intro n
  induction n with
  | zero => intro l0 l1 l2 l3 S r h0; rw [f_X7_needed_29] at h0; cases h0
  | succ n ih =>
    intro l0 l1 l2 l3 S r h0; rw [f_X7_needed_29] at h0
    refine ev_iload_n (pc := 29) (i := 3) rfl rfl dX7_needed_29 ?_
    refine ev_if_lt (pc := 30) (tgt := 75) (by decide) dX7_needed_30 (fun c29 => ?_) (fun c29 => ?_)
    · replace h0 := qi_t h0 c29
      refine ev_iload_n (pc := 75) (i := 2) rfl rfl dX7_needed_75 ?_
      exact ev_ireturn (pc := 76) rfl (nar_int _) (qRI_eq h0) dX7_needed_76
    · replace h0 := qi_f h0 c29
      refine ev_iload_n (pc := 33) (i := 2) rfl rfl dX7_needed_33 ?_
      refine ev_iconst (pc := 34) (v := 1) (by decide) dX7_needed_34 ?_
      refine ev_iload_n (pc := 35) (i := 3) rfl rfl dX7_needed_35 ?_
      refine ev_ishl (pc := 36)  dX7_needed_36 ?_
      refine ev_iconst (pc := 37) (v := -1) (by decide) dX7_needed_37 ?_
      refine ev_ixor (pc := 38)  dX7_needed_38 ?_
      refine ev_iand (pc := 39)  dX7_needed_39 ?_
      obtain ⟨x31, e32, h33⟩ := qv_el h0; clear h0
      refine xv_top e32 ?_
      refine ev_istore (pc := 40) (L' := [some (.ref l0), some (.ref l1), some (.int l2), some (.int l3), some (.int x31)]) (i := 4) (by decide) rfl rfl dX7_needed_40 ?_
      refine ev_aload_n (pc := 42) (i := 0) rfl rfl rfl dX7_needed_42 ?_
      refine ev_iload_n (pc := 43) (i := 2) rfl rfl dX7_needed_43 ?_
      refine ev_aload_n (pc := 44) (i := 1) rfl rfl rfl dX7_needed_44 ?_
      obtain ⟨g34, h35⟩ := qk_el h33; clear h33
      obtain ⟨x36, e37, h38⟩ := qv_el h35; clear h35
      refine xv_getIv (pc := 45) fn_402 (isb_el g34) e37 gw_98 dX7_needed_45 ?_
      obtain ⟨x39, S40, e41, h42⟩ := qc_el h38; clear h38
      refine xv_callS (pc := 48) (st := [.ref l0]) (as := [.int l2, .int x36]) (v := (some (.int x39))) (S' := S40) ok_X7_side (e_X7_side e41) (by decide) rfl (Nat.le_of_ble_eq_true rfl) rfl gw_855 dX7_needed_48 ?_
      refine ev_iload (pc := 51) (i := 4) rfl dX7_needed_51 ?_
      refine ev_aload_n (pc := 53) (i := 1) rfl rfl rfl dX7_needed_53 ?_
      obtain ⟨g43, h44⟩ := qk_el h42; clear h42
      obtain ⟨x45, e46, h47⟩ := qv_el h44; clear h44
      refine xv_getIv (pc := 54) fn_402 (isb_el g43) e46 gw_98 dX7_needed_54 ?_
      obtain ⟨x48, S49, e50, h51⟩ := qc_el h47; clear h47
      refine xv_callS (pc := 57) (st := [.int x39, .ref l0]) (as := [.int x31, .int x45]) (v := (some (.int x48))) (S' := S49) ok_X7_side (e_X7_side e50) (by decide) rfl (Nat.le_of_ble_eq_true rfl) rfl gw_855 dX7_needed_57 ?_
      obtain ⟨g52, h53⟩ := qk_el h51; clear h51
      obtain ⟨x54, S55, e56, h57⟩ := qc_el h53; clear h53
      refine xv_callV (pc := 60) (st := []) (as := [.int x39, .int x48]) (v := (some (.int x54))) (S' := S55) ok_X7_differ (e_X7_differ e56) (isb_el g52) (by decide) rfl (Nat.le_of_ble_eq_true rfl) rfl gw_858 dX7_needed_60 ?_
      refine ev_if_ne (pc := 63) (tgt := 69) (by decide) dX7_needed_63 (fun c58 => ?_) (fun c58 => ?_)
      · replace h57 := qi_f h57 c58
        refine ev_iinc (pc := 69) (L' := [some (.ref l0), some (.ref l1), some (.int l2), some (.int (l3 + (-1))), some (.int x31)]) (i := 3) (v := (l3 + (-1))) rfl (congrArg (l3 + ·) (by decide)) (by decide) rfl rfl dX7_needed_69 ?_
        refine ev_goto (pc := 72) (tgt := 29) (by decide) dX7_needed_72 ?_
        exact (ev_weak (qL_s (qL_s (qL_s (qL_s (qL_n qL_nil))))) (ih _ _ _ _ _ _ h57))
      · replace h57 := qi_t h57 c58
        refine ev_iload (pc := 66) (i := 4) rfl dX7_needed_66 ?_
        refine ev_istore_n (pc := 68) (L' := [some (.ref l0), some (.ref l1), some (.int x31), some (.int l3), some (.int x31)]) (i := 2) rfl (by decide) rfl rfl dX7_needed_68 ?_
        refine ev_iinc (pc := 69) (L' := [some (.ref l0), some (.ref l1), some (.int x31), some (.int (l3 + (-1))), some (.int x31)]) (i := 3) (v := (l3 + (-1))) rfl (congrArg (l3 + ·) (by decide)) (by decide) rfl rfl dX7_needed_69 ?_
        refine ev_goto (pc := 72) (tgt := 29) (by decide) dX7_needed_72 ?_
        exact (ev_weak (qL_s (qL_s (qL_s (qL_s (qL_n qL_nil))))) (ih _ _ _ _ _ _ h57))
theorem e_X7_needed {X : gk_X} {F : Nat} {S : gk_S} {a : Nat} {p0 : Nat} {r : (Int32 × gk_S)} (h0 : f_X7_needed F S a p0 = some r) : EvM X m_X7_needed 47 0 0 [.ref a, .ref p0] S (qRI r) := by
  unfold f_X7_needed at h0
  refine ev_method (by decide +kernel) rfl rfl (Nat.le_of_ble_eq_true rfl) ?_
  show EvW X m_X7_needed 47 0 0 0 [some (.ref a), some (.ref p0), none, none, none] [] S _
  refine ev_aload_n (pc := 0) (i := 0) rfl rfl rfl dX7_needed_0 ?_
  refine ev_aload_n (pc := 1) (i := 1) rfl rfl rfl dX7_needed_1 ?_
  refine ev_aload_n (pc := 2) (i := 1) rfl rfl rfl dX7_needed_2 ?_
  obtain ⟨g1, h2⟩ := qk_el h0; clear h0
  obtain ⟨x3, e4, h5⟩ := qv_el h2; clear h2
  refine xv_getIv (pc := 3) fn_401 (isb_el g1) e4 gw_92 dX7_needed_3 ?_
  refine ev_aload_n (pc := 6) (i := 1) rfl rfl rfl dX7_needed_6 ?_
  refine ev_aload_n (pc := 7) (i := 1) rfl rfl rfl dX7_needed_7 ?_
  obtain ⟨x6, e7, h8⟩ := qv_el h5; clear h5
  refine xv_getIv (pc := 8) fn_401 (isb_el g1) e7 gw_92 dX7_needed_8 ?_
  obtain ⟨g9, h10⟩ := qk_el h8; clear h8
  obtain ⟨x11, S12, e13, h14⟩ := qc_el h10; clear h10
  refine xv_callV (pc := 11) (st := []) (as := [.ref p0, .int x3, .ref p0, .int x6]) (v := none) (S' := S12) ok_X7_prepare (e_X7_prepare e13) (isb_el g9) (by decide) rfl (Nat.le_of_ble_eq_true rfl) rfl gw_820 dX7_needed_11 ?_
  refine ev_aload_n (pc := 14) (i := 1) rfl rfl rfl dX7_needed_14 ?_
  obtain ⟨g15, h16⟩ := qk_el h14; clear h14
  obtain ⟨x17, e18, h19⟩ := qv_el h16; clear h16
  refine xv_getIv (pc := 15) fn_401 (isb_el g15) e18 gw_92 dX7_needed_15 ?_
  obtain ⟨x20, S21, e22, h23⟩ := qc_el h19; clear h19
  refine xv_callS (pc := 18) (st := []) (as := [.int x17]) (v := (some (.int x20))) (S' := S21) ok_X7_bitsBelow (e_X7_bitsBelow e22) (by decide) rfl (Nat.le_of_ble_eq_true rfl) rfl gw_852 dX7_needed_18 ?_
  refine ev_istore_n (pc := 21) (L' := [some (.ref a), some (.ref p0), some (.int x20), none, none]) (i := 2) rfl (by decide) rfl rfl dX7_needed_21 ?_
  refine ev_aload_n (pc := 22) (i := 1) rfl rfl rfl dX7_needed_22 ?_
  obtain ⟨g24, h25⟩ := qk_el h23; clear h23
  obtain ⟨x26, e27, h28⟩ := qv_el h25; clear h25
  refine xv_getIv (pc := 23) fn_401 (isb_el g24) e27 gw_92 dX7_needed_23 ?_
  refine ev_iconst (pc := 26) (v := 1) (by decide) dX7_needed_26 ?_
  refine ev_isub (pc := 27)  dX7_needed_27 ?_
  refine ev_istore_n (pc := 28) (L' := [some (.ref a), some (.ref p0), some (.int x20), some (.int (x26 - 1)), none]) (i := 3) rfl (by decide) rfl rfl dX7_needed_28 ?_
  exact ev_weak (qL_s (qL_s (qL_s (qL_s (qL_n qL_nil))))) (e_X7_needed_29 F _ _ _ _ _ _ h28)
theorem dX5_takeOver_0 : decode cX5_takeOver 0 = .ok (.iconst 0, 1) := by decide +kernel
theorem dX5_takeOver_1 : decode cX5_takeOver 1 = .ok (.istore_n 2, 1) := by decide +kernel
theorem dX5_takeOver_2 : decode cX5_takeOver 2 = .ok (.iload_n 2, 1) := by decide +kernel
theorem dX5_takeOver_3 : decode cX5_takeOver 3 = .ok (.bipush 6, 2) := by decide +kernel
theorem dX5_takeOver_5 : decode cX5_takeOver 5 = .ok (.if_icmp .ge 33, 3) := by decide +kernel
theorem dX5_takeOver_8 : decode cX5_takeOver 8 = .ok (.aload_n 0, 1) := by decide +kernel
theorem dX5_takeOver_9 : decode cX5_takeOver 9 = .ok (.getfield 9, 3) := by decide +kernel
theorem dX5_takeOver_12 : decode cX5_takeOver 12 = .ok (.iload_n 2, 1) := by decide +kernel
theorem dX5_takeOver_13 : decode cX5_takeOver 13 = .ok (.aload_n 1, 1) := by decide +kernel
theorem dX5_takeOver_14 : decode cX5_takeOver 14 = .ok (.getfield 9, 3) := by decide +kernel
theorem dX5_takeOver_17 : decode cX5_takeOver 17 = .ok (.iload_n 2, 1) := by decide +kernel
theorem dX5_takeOver_18 : decode cX5_takeOver 18 = .ok (.laload, 1) := by decide +kernel
theorem dX5_takeOver_19 : decode cX5_takeOver 19 = .ok (.lastore, 1) := by decide +kernel
theorem dX5_takeOver_20 : decode cX5_takeOver 20 = .ok (.aload_n 0, 1) := by decide +kernel
theorem dX5_takeOver_21 : decode cX5_takeOver 21 = .ok (.getfield 15, 3) := by decide +kernel
theorem dX5_takeOver_24 : decode cX5_takeOver 24 = .ok (.iload_n 2, 1) := by decide +kernel
theorem dX5_takeOver_25 : decode cX5_takeOver 25 = .ok (.aload_n 1, 1) := by decide +kernel
theorem dX5_takeOver_26 : decode cX5_takeOver 26 = .ok (.getfield 15, 3) := by decide +kernel
theorem dX5_takeOver_29 : decode cX5_takeOver 29 = .ok (.iload_n 2, 1) := by decide +kernel
theorem dX5_takeOver_30 : decode cX5_takeOver 30 = .ok (.laload, 1) := by decide +kernel
theorem dX5_takeOver_31 : decode cX5_takeOver 31 = .ok (.lastore, 1) := by decide +kernel
theorem dX5_takeOver_32 : decode cX5_takeOver 32 = .ok (.iinc 2 1, 3) := by decide +kernel
theorem dX5_takeOver_35 : decode cX5_takeOver 35 = .ok (.goto (-33), 3) := by decide +kernel
theorem dX5_takeOver_38 : decode cX5_takeOver 38 = .ok (.aload_n 0, 1) := by decide +kernel
theorem dX5_takeOver_39 : decode cX5_takeOver 39 = .ok (.aload_n 1, 1) := by decide +kernel
theorem dX5_takeOver_40 : decode cX5_takeOver 40 = .ok (.getfield 18, 3) := by decide +kernel
theorem dX5_takeOver_43 : decode cX5_takeOver 43 = .ok (.putfield 18, 3) := by decide +kernel
theorem dX5_takeOver_46 : decode cX5_takeOver 46 = .ok (.aload_n 0, 1) := by decide +kernel
theorem dX5_takeOver_47 : decode cX5_takeOver 47 = .ok (.aload_n 1, 1) := by decide +kernel
theorem dX5_takeOver_48 : decode cX5_takeOver 48 = .ok (.getfield 22, 3) := by decide +kernel
theorem dX5_takeOver_51 : decode cX5_takeOver 51 = .ok (.putfield 22, 3) := by decide +kernel
theorem dX5_takeOver_54 : decode cX5_takeOver 54 = .ok (.aload_n 0, 1) := by decide +kernel
theorem dX5_takeOver_55 : decode cX5_takeOver 55 = .ok (.iconst 0, 1) := by decide +kernel
theorem dX5_takeOver_56 : decode cX5_takeOver 56 = .ok (.putfield 25, 3) := by decide +kernel
theorem dX5_takeOver_59 : decode cX5_takeOver 59 = .ok (.return_, 1) := by decide +kernel
theorem e_X5_takeOver_2 {X : gk_X} {F : Nat} : ∀ (n : Nat) (l0 : Nat) (l1 : Nat) (l2 : Int32) (S : gk_S) (r : (Unit × gk_S)), f_X5_takeOver_2 F n l0 l1 l2 S = some r → EvW X m_X5_takeOver 1 0 0 2 [some (.ref l0), some (.ref l1), some (.int l2)] [] S (qRU r) := by
  intro n
  induction n with
  | zero => intro l0 l1 l2 S r h0; rw [f_X5_takeOver_2] at h0; cases h0
  | succ n ih =>
    intro l0 l1 l2 S r h0; rw [f_X5_takeOver_2] at h0
    refine ev_iload_n (pc := 2) (i := 2) rfl rfl dX5_takeOver_2 ?_
    refine ev_bipush (pc := 3) (v := 6) (by decide) dX5_takeOver_3 ?_
    refine ev_ic_ge (pc := 5) (tgt := 38) (by decide) dX5_takeOver_5 (fun c1 => ?_) (fun c1 => ?_)
    · replace h0 := qi_t h0 c1
      refine ev_aload_n (pc := 38) (i := 0) rfl rfl rfl dX5_takeOver_38 ?_
      refine ev_aload_n (pc := 39) (i := 1) rfl rfl rfl dX5_takeOver_39 ?_
      obtain ⟨g3, h4⟩ := qk_el h0; clear h0
      obtain ⟨x5, e6, h7⟩ := qv_el h4; clear h4
      refine xv_getIv (pc := 40) fn_302 (isb_el g3) e6 gw_70 dX5_takeOver_40 ?_
      obtain ⟨g8, h9⟩ := qk_el h7; clear h7
      obtain ⟨S10, e11, h12⟩ := qv_el h9; clear h9
      refine yv_putI (pc := 43) fn_302 ⟨rfl, rfl⟩ (isb_el g8) e11 gw_70 dX5_takeOver_43 ?_
      refine ev_aload_n (pc := 46) (i := 0) rfl rfl rfl dX5_takeOver_46 ?_
      refine ev_aload_n (pc := 47) (i := 1) rfl rfl rfl dX5_takeOver_47 ?_
      obtain ⟨x13, e14, h15⟩ := qv_el h12; clear h12
      refine xv_getIv (pc := 48) fn_303 (is_sI (isb_el g3) e11) e14 gw_72 dX5_takeOver_48 ?_
      obtain ⟨S16, e17, h18⟩ := qv_el h15; clear h15
      refine yv_putI (pc := 51) fn_303 ⟨rfl, rfl⟩ (is_sI (isb_el g8) e11) e17 gw_72 dX5_takeOver_51 ?_
      refine ev_aload_n (pc := 54) (i := 0) rfl rfl rfl dX5_takeOver_54 ?_
      refine ev_iconst (pc := 55) (v := 0) (by decide) dX5_takeOver_55 ?_
      obtain ⟨S19, e20, h21⟩ := qv_el h18; clear h18
      refine yv_putI (pc := 56) fn_304 ⟨rfl, rfl⟩ (is_sI (is_sI (isb_el g8) e11) e17) e20 gw_76 dX5_takeOver_56 ?_
      exact ev_return (pc := 59) rfl (qRU_eq h21) dX5_takeOver_59
    · replace h0 := qi_f h0 c1
      refine ev_aload_n (pc := 8) (i := 0) rfl rfl rfl dX5_takeOver_8 ?_
      obtain ⟨g22, h23⟩ := qk_el h0; clear h0
      obtain ⟨b24, e25, h26⟩ := qP_el h23; clear h23
      refine xv_getP (pc := 9) fn_300 (isb_el g22) e25 gw_64 dX5_takeOver_9 ?_
      refine ev_iload_n (pc := 12) (i := 2) rfl rfl dX5_takeOver_12 ?_
      refine ev_aload_n (pc := 13) (i := 1) rfl rfl rfl dX5_takeOver_13 ?_
      obtain ⟨g27, h28⟩ := qk_el h26; clear h26
      obtain ⟨b29, e30, h31⟩ := qP_el h28; clear h28
      refine xv_getP (pc := 14) fn_300 (isb_el g27) e30 gw_64 dX5_takeOver_14 ?_
      refine ev_iload_n (pc := 17) (i := 2) rfl rfl dX5_takeOver_17 ?_
      obtain ⟨g32, h33⟩ := qk_el h31; clear h31
      obtain ⟨g34, h35⟩ := qk_el h33; clear h33
      obtain ⟨x36, e37, h38⟩ := qv_el h35; clear h35
      refine yv_lald (pc := 18) (isb_el g32) (inb_el g34) e37 dX5_takeOver_18 ?_
      obtain ⟨g39, h40⟩ := qk_el h38; clear h38
      obtain ⟨g41, h42⟩ := qk_el h40; clear h40
      obtain ⟨S43, e44, h45⟩ := qv_el h42; clear h42
      refine yv_last (pc := 19) (isb_el g39) (inb_el g41) e44 dX5_takeOver_19 ?_
      refine ev_aload_n (pc := 20) (i := 0) rfl rfl rfl dX5_takeOver_20 ?_
      obtain ⟨b46, e47, h48⟩ := qP_el h45; clear h45
      refine xv_getP (pc := 21) fn_301 (is_wJ (isb_el g22) e44) e47 gw_67 dX5_takeOver_21 ?_
      refine ev_iload_n (pc := 24) (i := 2) rfl rfl dX5_takeOver_24 ?_
      refine ev_aload_n (pc := 25) (i := 1) rfl rfl rfl dX5_takeOver_25 ?_
      obtain ⟨b49, e50, h51⟩ := qP_el h48; clear h48
      refine xv_getP (pc := 26) fn_301 (is_wJ (isb_el g27) e44) e50 gw_67 dX5_takeOver_26 ?_
      refine ev_iload_n (pc := 29) (i := 2) rfl rfl dX5_takeOver_29 ?_
      obtain ⟨g52, h53⟩ := qk_el h51; clear h51
      obtain ⟨g54, h55⟩ := qk_el h53; clear h53
      obtain ⟨x56, e57, h58⟩ := qv_el h55; clear h55
      refine yv_lald (pc := 30) (isb_el g52) (inb_el g54) e57 dX5_takeOver_30 ?_
      obtain ⟨g59, h60⟩ := qk_el h58; clear h58
      obtain ⟨g61, h62⟩ := qk_el h60; clear h60
      obtain ⟨S63, e64, h65⟩ := qv_el h62; clear h62
      refine yv_last (pc := 31) (isb_el g59) (inb_el g61) e64 dX5_takeOver_31 ?_
      refine ev_iinc (pc := 32) (L' := [some (.ref l0), some (.ref l1), some (.int (l2 + 1))]) (i := 2) (v := (l2 + 1)) rfl rfl (by decide) rfl rfl dX5_takeOver_32 ?_
      refine ev_goto (pc := 35) (tgt := 2) (by decide) dX5_takeOver_35 ?_
      exact (ev_weak (qL_s (qL_s (qL_s qL_nil))) (ih _ _ _ _ _ h65))
theorem e_X5_takeOver {X : gk_X} {F : Nat} {S : gk_S} {a : Nat} {p0 : Nat} {r : (Unit × gk_S)} (h0 : f_X5_takeOver F S a p0 = some r) : EvM X m_X5_takeOver 1 0 0 [.ref a, .ref p0] S (qRU r) := by
  unfold f_X5_takeOver at h0
  refine ev_method (by decide +kernel) rfl rfl (Nat.le_of_ble_eq_true rfl) ?_
  show EvW X m_X5_takeOver 1 0 0 0 [some (.ref a), some (.ref p0), none] [] S _
  refine ev_iconst (pc := 0) (v := 0) (by decide) dX5_takeOver_0 ?_
  refine ev_istore_n (pc := 1) (L' := [some (.ref a), some (.ref p0), some (.int 0)]) (i := 2) rfl (by decide) rfl rfl dX5_takeOver_1 ?_
  exact ev_weak (qL_s (qL_s (qL_s qL_nil))) (e_X5_takeOver_2 F _ _ _ _ _ h0)
theorem dX6_takeOver_0 : decode cX6_takeOver 0 = .ok (.aload_n 0, 1) := by decide +kernel
theorem dX6_takeOver_1 : decode cX6_takeOver 1 = .ok (.invokevirtual 28, 3) := by decide +kernel
theorem dX6_takeOver_4 : decode cX6_takeOver 4 = .ok (.aload_n 0, 1) := by decide +kernel
theorem dX6_takeOver_5 : decode cX6_takeOver 5 = .ok (.aload_n 1, 1) := by decide +kernel
theorem dX6_takeOver_6 : decode cX6_takeOver 6 = .ok (.getfield 22, 3) := by decide +kernel
theorem dX6_takeOver_9 : decode cX6_takeOver 9 = .ok (.putfield 22, 3) := by decide +kernel
theorem dX6_takeOver_12 : decode cX6_takeOver 12 = .ok (.iconst 0, 1) := by decide +kernel
theorem dX6_takeOver_13 : decode cX6_takeOver 13 = .ok (.istore_n 3, 1) := by decide +kernel
theorem dX6_takeOver_14 : decode cX6_takeOver 14 = .ok (.iload_n 3, 1) := by decide +kernel
theorem dX6_takeOver_15 : decode cX6_takeOver 15 = .ok (.aload_n 1, 1) := by decide +kernel
theorem dX6_takeOver_16 : decode cX6_takeOver 16 = .ok (.getfield 18, 3) := by decide +kernel
theorem dX6_takeOver_19 : decode cX6_takeOver 19 = .ok (.if_icmp .ge 49, 3) := by decide +kernel
theorem dX6_takeOver_22 : decode cX6_takeOver 22 = .ok (.iload_n 3, 1) := by decide +kernel
theorem dX6_takeOver_23 : decode cX6_takeOver 23 = .ok (.bipush 16, 2) := by decide +kernel
theorem dX6_takeOver_25 : decode cX6_takeOver 25 = .ok (.if_icmp .ge 43, 3) := by decide +kernel
theorem dX6_takeOver_28 : decode cX6_takeOver 28 = .ok (.iload_n 2, 1) := by decide +kernel
theorem dX6_takeOver_29 : decode cX6_takeOver 29 = .ok (.iload_n 3, 1) := by decide +kernel
theorem dX6_takeOver_30 : decode cX6_takeOver 30 = .ok (.ishr, 1) := by decide +kernel
theorem dX6_takeOver_31 : decode cX6_takeOver 31 = .ok (.iconst 1, 1) := by decide +kernel
theorem dX6_takeOver_32 : decode cX6_takeOver 32 = .ok (.iand, 1) := by decide +kernel
theorem dX6_takeOver_33 : decode cX6_takeOver 33 = .ok (.ifCond .eq 29, 3) := by decide +kernel
theorem dX6_takeOver_36 : decode cX6_takeOver 36 = .ok (.aload_n 0, 1) := by decide +kernel
theorem dX6_takeOver_37 : decode cX6_takeOver 37 = .ok (.aload_n 0, 1) := by decide +kernel
theorem dX6_takeOver_38 : decode cX6_takeOver 38 = .ok (.getfield 18, 3) := by decide +kernel
theorem dX6_takeOver_41 : decode cX6_takeOver 41 = .ok (.invokevirtual 31, 3) := by decide +kernel
theorem dX6_takeOver_44 : decode cX6_takeOver 44 = .ok (.aload_n 1, 1) := by decide +kernel
theorem dX6_takeOver_45 : decode cX6_takeOver 45 = .ok (.iload_n 3, 1) := by decide +kernel
theorem dX6_takeOver_46 : decode cX6_takeOver 46 = .ok (.invokevirtual 31, 3) := by decide +kernel
theorem dX6_takeOver_49 : decode cX6_takeOver 49 = .ok (.invokevirtual 35, 3) := by decide +kernel
theorem dX6_takeOver_52 : decode cX6_takeOver 52 = .ok (.aload_n 0, 1) := by decide +kernel
theorem dX6_takeOver_53 : decode cX6_takeOver 53 = .ok (.dup, 1) := by decide +kernel
theorem dX6_takeOver_54 : decode cX6_takeOver 54 = .ok (.getfield 18, 3) := by decide +kernel
theorem dX6_takeOver_57 : decode cX6_takeOver 57 = .ok (.iconst 1, 1) := by decide +kernel
theorem dX6_takeOver_58 : decode cX6_takeOver 58 = .ok (.iadd, 1) := by decide +kernel
theorem dX6_takeOver_59 : decode cX6_takeOver 59 = .ok (.putfield 18, 3) := by decide +kernel
theorem dX6_takeOver_62 : decode cX6_takeOver 62 = .ok (.iinc 3 1, 3) := by decide +kernel
theorem dX6_takeOver_65 : decode cX6_takeOver 65 = .ok (.goto (-51), 3) := by decide +kernel
theorem dX6_takeOver_68 : decode cX6_takeOver 68 = .ok (.return_, 1) := by decide +kernel
theorem e_X6_takeOver_14 {X : gk_X} {F : Nat} : ∀ (n : Nat) (l0 : Nat) (l1 : Nat) (l2 : Int32) (l3 : Int32) (S : gk_S) (r : (Unit × gk_S)), f_X6_takeOver_14 F n l0 l1 l2 l3 S = some r → EvW X m_X6_takeOver 2 0 0 14 [some (.ref l0), some (.ref l1), some (.int l2), some (.int l3)] [] S (qRU r) := by
  intro n
  induction n with
  | zero => intro l0 l1 l2 l3 S r h0; rw [f_X6_takeOver_14] at h0; cases h0
  | succ n ih =>
    intro l0 l1 l2 l3 S r h0; rw [f_X6_takeOver_14] at h0
    refine ev_iload_n (pc := 14) (i := 3) rfl rfl dX6_takeOver_14 ?_
    refine ev_aload_n (pc := 15) (i := 1) rfl rfl rfl dX6_takeOver_15 ?_
    obtain ⟨g17, h18⟩ := qk_el h0; clear h0
    obtain ⟨x19, e20, h21⟩ := qv_el h18; clear h18
    refine xv_getIv (pc := 16) fn_401 (isb_el g17) e20 gw_91 dX6_takeOver_16 ?_
    refine ev_ic_ge (pc := 19) (tgt := 68) (by decide) dX6_takeOver_19 (fun c22 => ?_) (fun c22 => ?_)
    · replace h21 := qi_t h21 c22
      exact ev_return (pc := 68) rfl (qRU_eq h21) dX6_takeOver_68
    · replace h21 := qi_f h21 c22
      refine ev_iload_n (pc := 22) (i := 3) rfl rfl dX6_takeOver_22 ?_
      refine ev_bipush (pc := 23) (v := 16) (by decide) dX6_takeOver_23 ?_
      refine ev_ic_ge (pc := 25) (tgt := 68) (by decide) dX6_takeOver_25 (fun c24 => ?_) (fun c24 => ?_)
      · replace h21 := qi_t h21 c24
        exact ev_return (pc := 68) rfl (qRU_eq h21) dX6_takeOver_68
      · replace h21 := qi_f h21 c24
        refine ev_iload_n (pc := 28) (i := 2) rfl rfl dX6_takeOver_28 ?_
        refine ev_iload_n (pc := 29) (i := 3) rfl rfl dX6_takeOver_29 ?_
        refine ev_ishr (pc := 30)  dX6_takeOver_30 ?_
        refine ev_iconst (pc := 31) (v := 1) (by decide) dX6_takeOver_31 ?_
        refine ev_iand (pc := 32)  dX6_takeOver_32 ?_
        refine ev_if_eq (pc := 33) (tgt := 62) (by decide) dX6_takeOver_33 (fun c26 => ?_) (fun c26 => ?_)
        · replace h21 := qi_t h21 c26
          refine ev_iinc (pc := 62) (L' := [some (.ref l0), some (.ref l1), some (.int l2), some (.int (l3 + 1))]) (i := 3) (v := (l3 + 1)) rfl rfl (by decide) rfl rfl dX6_takeOver_62 ?_
          refine ev_goto (pc := 65) (tgt := 14) (by decide) dX6_takeOver_65 ?_
          exact (ev_weak (qL_s (qL_s (qL_s (qL_s qL_nil)))) (ih _ _ _ _ _ _ h21))
        · replace h21 := qi_f h21 c26
          refine ev_aload_n (pc := 36) (i := 0) rfl rfl rfl dX6_takeOver_36 ?_
          refine ev_aload_n (pc := 37) (i := 0) rfl rfl rfl dX6_takeOver_37 ?_
          obtain ⟨g28, h29⟩ := qk_el h21; clear h21
          obtain ⟨x30, e31, h32⟩ := qv_el h29; clear h29
          refine xv_getIv (pc := 38) fn_401 (isb_el g28) e31 gw_91 dX6_takeOver_38 ?_
          obtain ⟨x33, S34, e35, h36⟩ := qc_el h32; clear h32
          refine xv_callV (pc := 41) (st := []) (as := [.int x30]) (v := (some (.ref x33))) (S' := S34) ok_X6_at (e_X6_at e35) (isb_el g28) (by decide) rfl (Nat.le_of_ble_eq_true rfl) rfl gw_923 dX6_takeOver_41 ?_
          refine ev_aload_n (pc := 44) (i := 1) rfl rfl rfl dX6_takeOver_44 ?_
          refine ev_iload_n (pc := 45) (i := 3) rfl rfl dX6_takeOver_45 ?_
          obtain ⟨g37, h38⟩ := qk_el h36; clear h36
          obtain ⟨x39, S40, e41, h42⟩ := qc_el h38; clear h38
          refine xv_callV (pc := 46) (st := [.ref x33]) (as := [.int l3]) (v := (some (.ref x39))) (S' := S40) ok_X6_at (e_X6_at e41) (isb_el g37) (by decide) rfl (Nat.le_of_ble_eq_true rfl) rfl gw_923 dX6_takeOver_46 ?_
          obtain ⟨g43, h44⟩ := qk_el h42; clear h42
          obtain ⟨x45, S46, e47, h48⟩ := qc_el h44; clear h44
          refine xv_callV (pc := 49) (st := []) (as := [.ref x39]) (v := none) (S' := S46) ok_X5_takeOver (e_X5_takeOver e47) (isb_el g43) (by decide) rfl (Nat.le_of_ble_eq_true rfl) rfl gw_924 dX6_takeOver_49 ?_
          refine ev_aload_n (pc := 52) (i := 0) rfl rfl rfl dX6_takeOver_52 ?_
          refine ev_dup (pc := 53) (.inr rfl) dX6_takeOver_53 ?_
          obtain ⟨g49, h50⟩ := qk_el h48; clear h48
          obtain ⟨x51, e52, h53⟩ := qv_el h50; clear h50
          refine xv_getIv (pc := 54) fn_401 (isb_el g49) e52 gw_91 dX6_takeOver_54 ?_
          refine ev_iconst (pc := 57) (v := 1) (by decide) dX6_takeOver_57 ?_
          refine ev_iadd (pc := 58)  dX6_takeOver_58 ?_
          obtain ⟨S54, e55, h56⟩ := qv_el h53; clear h53
          refine yv_putI (pc := 59) fn_401 ⟨rfl, rfl⟩ (isb_el g49) e55 gw_91 dX6_takeOver_59 ?_
          refine ev_iinc (pc := 62) (L' := [some (.ref l0), some (.ref l1), some (.int l2), some (.int (l3 + 1))]) (i := 3) (v := (l3 + 1)) rfl rfl (by decide) rfl rfl dX6_takeOver_62 ?_
          refine ev_goto (pc := 65) (tgt := 14) (by decide) dX6_takeOver_65 ?_
          exact (ev_weak (qL_s (qL_s (qL_s (qL_s qL_nil)))) (ih _ _ _ _ _ _ h56))
theorem e_X6_takeOver {X : gk_X} {F : Nat} {S : gk_S} {a : Nat} {p0 : Nat} {p1 : Int32} {r : (Unit × gk_S)} (h0 : f_X6_takeOver F S a p0 p1 = some r) : EvM X m_X6_takeOver 2 0 0 [.ref a, .ref p0, .int p1] S (qRU r) := by
  unfold f_X6_takeOver at h0
  refine ev_method (by decide +kernel) rfl rfl (Nat.le_of_ble_eq_true rfl) ?_
  show EvW X m_X6_takeOver 2 0 0 0 [some (.ref a), some (.ref p0), some (.int p1), none] [] S _
  refine ev_aload_n (pc := 0) (i := 0) rfl rfl rfl dX6_takeOver_0 ?_
  obtain ⟨g1, h2⟩ := qk_el h0; clear h0
  obtain ⟨x3, S4, e5, h6⟩ := qc_el h2; clear h2
  refine xv_callV (pc := 1) (st := []) (as := []) (v := none) (S' := S4) ok_X6_clear (e_X6_clear e5) (isb_el g1) (by decide) rfl (Nat.le_of_ble_eq_true rfl) rfl gw_922 dX6_takeOver_1 ?_
  refine ev_aload_n (pc := 4) (i := 0) rfl rfl rfl dX6_takeOver_4 ?_
  refine ev_aload_n (pc := 5) (i := 1) rfl rfl rfl dX6_takeOver_5 ?_
  obtain ⟨g7, h8⟩ := qk_el h6; clear h6
  obtain ⟨x9, e10, h11⟩ := qv_el h8; clear h8
  refine xv_getIv (pc := 6) fn_402 (isb_el g7) e10 gw_96 dX6_takeOver_6 ?_
  obtain ⟨g12, h13⟩ := qk_el h11; clear h11
  obtain ⟨S14, e15, h16⟩ := qv_el h13; clear h13
  refine yv_putI (pc := 9) fn_402 ⟨rfl, rfl⟩ (isb_el g12) e15 gw_96 dX6_takeOver_9 ?_
  refine ev_iconst (pc := 12) (v := 0) (by decide) dX6_takeOver_12 ?_
  refine ev_istore_n (pc := 13) (L' := [some (.ref a), some (.ref p0), some (.int p1), some (.int 0)]) (i := 3) rfl (by decide) rfl rfl dX6_takeOver_13 ?_
  exact ev_weak (qL_s (qL_s (qL_s (qL_s qL_nil)))) (e_X6_takeOver_14 F _ _ _ _ _ _ h16)
theorem dX11_least_0 : decode cX11_least 0 = .ok (.iload_n 1, 1) := by decide +kernel
theorem dX11_least_1 : decode cX11_least 1 = .ok (.invokestatic 89, 3) := by decide +kernel
theorem dX11_least_4 : decode cX11_least 4 = .ok (.iload_n 2, 1) := by decide +kernel
theorem dX11_least_5 : decode cX11_least 5 = .ok (.invokestatic 89, 3) := by decide +kernel
theorem dX11_least_8 : decode cX11_least 8 = .ok (.aload_n 0, 1) := by decide +kernel
theorem dX11_least_9 : decode cX11_least 9 = .ok (.getfield 23, 3) := by decide +kernel
theorem dX11_least_12 : decode cX11_least 12 = .ok (.iload_n 1, 1) := by decide +kernel
theorem dX11_least_13 : decode cX11_least 13 = .ok (.aaload, 1) := by decide +kernel
theorem dX11_least_14 : decode cX11_least 14 = .ok (.astore_n 3, 1) := by decide +kernel
theorem dX11_least_15 : decode cX11_least 15 = .ok (.aload_n 0, 1) := by decide +kernel
theorem dX11_least_16 : decode cX11_least 16 = .ok (.getfield 28, 3) := by decide +kernel
theorem dX11_least_19 : decode cX11_least 19 = .ok (.aload_n 3, 1) := by decide +kernel
theorem dX11_least_20 : decode cX11_least 20 = .ok (.aload_n 0, 1) := by decide +kernel
theorem dX11_least_21 : decode cX11_least 21 = .ok (.getfield 44, 3) := by decide +kernel
theorem dX11_least_24 : decode cX11_least 24 = .ok (.aload_n 3, 1) := by decide +kernel
theorem dX11_least_25 : decode cX11_least 25 = .ok (.invokevirtual 169, 3) := by decide +kernel
theorem dX11_least_28 : decode cX11_least 28 = .ok (.invokevirtual 173, 3) := by decide +kernel
theorem dX11_least_31 : decode cX11_least 31 = .ok (.aload_n 0, 1) := by decide +kernel
theorem dX11_least_32 : decode cX11_least 32 = .ok (.iload_n 2, 1) := by decide +kernel
theorem dX11_least_33 : decode cX11_least 33 = .ok (.invokevirtual 100, 3) := by decide +kernel
theorem dX11_least_36 : decode cX11_least 36 = .ok (.aload_n 0, 1) := by decide +kernel
theorem dX11_least_37 : decode cX11_least 37 = .ok (.getfield 23, 3) := by decide +kernel
theorem dX11_least_40 : decode cX11_least 40 = .ok (.iload_n 2, 1) := by decide +kernel
theorem dX11_least_41 : decode cX11_least 41 = .ok (.aaload, 1) := by decide +kernel
theorem dX11_least_42 : decode cX11_least 42 = .ok (.getfield 103, 3) := by decide +kernel
theorem dX11_least_45 : decode cX11_least 45 = .ok (.ireturn, 1) := by decide +kernel
theorem e_X11_least {X : gk_X} {F : Nat} {k j : Nat} {S : gk_S} {a : Nat} {p0 : Int32} {p1 : Int32} {r : ((Int32 ⊕ String) × gk_S)} (hb : qb r k j) (h0 : f_X11_least F S a p0 p1 = some r) : EvM X m_X11_least 48 k j [.ref a, .int p0, .int p1] S (qXI r) := by
  unfold f_X11_least at h0
  refine ev_method (by decide +kernel) rfl rfl (Nat.le_of_ble_eq_true rfl) ?_
  show EvW X m_X11_least 48 k j 0 [some (.ref a), some (.int p0), some (.int p1), none] [] S _
  refine ev_iload_n (pc := 0) (i := 1) rfl rfl dX11_least_0 ?_
  rcases qx_el h0 with ⟨E5, T6, e3, z1⟩ | ⟨x1, S2, e3, h4⟩
  · subst z1
    exact xv_thrS (pc := 1) (st := []) (as := [.int p0]) ok_X11_checkList (e_X11_checkList (fun _ _ => qb_inr hb) e3) rfl rfl (by decide) (Nat.le_refl _) (Nat.le_refl _) rfl (Nat.le_of_ble_eq_true rfl) rfl gw_386 dX11_least_1
  clear h0
  refine xv_callS (pc := 1) (st := []) (as := [.int p0]) (v := none) (S' := S2) ok_X11_checkList (e_X11_checkList (k := 0) (j := 0) qb_inl e3) (by decide) rfl (Nat.le_of_ble_eq_true rfl) rfl gw_386 dX11_least_1 ?_
  refine ev_iload_n (pc := 4) (i := 2) rfl rfl dX11_least_4 ?_
  rcases qx_el h4 with ⟨E11, T12, e9, z1⟩ | ⟨x7, S8, e9, h10⟩
  · subst z1
    exact xv_thrS (pc := 5) (st := []) (as := [.int p1]) ok_X11_checkList (e_X11_checkList (fun _ _ => qb_inr hb) e9) rfl rfl (by decide) (Nat.le_refl _) (Nat.le_refl _) rfl (Nat.le_of_ble_eq_true rfl) rfl gw_386 dX11_least_5
  clear h4
  refine xv_callS (pc := 5) (st := []) (as := [.int p1]) (v := none) (S' := S8) ok_X11_checkList (e_X11_checkList (k := 0) (j := 0) qb_inl e9) (by decide) rfl (Nat.le_of_ble_eq_true rfl) rfl gw_386 dX11_least_5 ?_
  refine ev_aload_n (pc := 8) (i := 0) rfl rfl rfl dX11_least_8 ?_
  obtain ⟨g13, h14⟩ := qk_el h10; clear h10
  obtain ⟨b15, e16, h17⟩ := qP_el h14; clear h14
  refine xv_getP (pc := 9) fn_802 (isb_el g13) e16 gw_284 dX11_least_9 ?_
  refine ev_iload_n (pc := 12) (i := 1) rfl rfl dX11_least_12 ?_
  obtain ⟨g18, h19⟩ := qk_el h17; clear h17
  obtain ⟨g20, h21⟩ := qk_el h19; clear h19
  obtain ⟨b22, e23, h24⟩ := qP_el h21; clear h21
  refine yv_aald (pc := 13) (isb_el g18) (by decide) (inb_el g20) e23 dX11_least_13 ?_
  refine ev_astore_n (pc := 14) (L' := [some (.ref a), some (.int p0), some (.int p1), some (.ref b22)]) (i := 3) rfl (by decide) rfl rfl rfl dX11_least_14 ?_
  refine ev_aload_n (pc := 15) (i := 0) rfl rfl rfl dX11_least_15 ?_
  obtain ⟨b25, e26, h27⟩ := qP_el h24; clear h24
  refine xv_getP (pc := 16) fn_810 (isb_el g13) e26 gw_292 dX11_least_16 ?_
  refine ev_aload_n (pc := 19) (i := 3) rfl rfl rfl dX11_least_19 ?_
  refine ev_aload_n (pc := 20) (i := 0) rfl rfl rfl dX11_least_20 ?_
  obtain ⟨b28, e29, h30⟩ := qP_el h27; clear h27
  refine xv_getP (pc := 21) fn_804 (isb_el g13) e29 gw_286 dX11_least_21 ?_
  refine ev_aload_n (pc := 24) (i := 3) rfl rfl rfl dX11_least_24 ?_
  obtain ⟨g31, h32⟩ := qk_el h30; clear h30
  obtain ⟨x33, S34, e35, h36⟩ := qc_el h32; clear h32
  refine xv_callV (pc := 25) (st := [.ref b22, .ref b25]) (as := [.ref b22]) (v := (some (.int x33))) (S' := S34) ok_X7_needed (e_X7_needed e35) (isb_el g31) (by decide) rfl (Nat.le_of_ble_eq_true rfl) rfl gw_914 dX11_least_25 ?_
  obtain ⟨g37, h38⟩ := qk_el h36; clear h36
  obtain ⟨x39, S40, e41, h42⟩ := qc_el h38; clear h38
  refine xv_callV (pc := 28) (st := []) (as := [.ref b22, .int x33]) (v := none) (S' := S40) ok_X6_takeOver (e_X6_takeOver e41) (isb_el g37) (by decide) rfl (Nat.le_of_ble_eq_true rfl) rfl gw_918 dX11_least_28 ?_
  refine ev_aload_n (pc := 31) (i := 0) rfl rfl rfl dX11_least_31 ?_
  refine ev_iload_n (pc := 32) (i := 2) rfl rfl dX11_least_32 ?_
  obtain ⟨g43, h44⟩ := qk_el h42; clear h42
  obtain ⟨x45, S46, e47, h48⟩ := qc_el h44; clear h44
  refine xv_callV (pc := 33) (st := []) (as := [.int p1]) (v := none) (S' := S46) ok_X11_placeDraft (e_X11_placeDraft e47) (isb_el g43) (by decide) rfl (Nat.le_of_ble_eq_true rfl) rfl gw_658 dX11_least_33 ?_
  refine ev_aload_n (pc := 36) (i := 0) rfl rfl rfl dX11_least_36 ?_
  obtain ⟨g49, h50⟩ := qk_el h48; clear h48
  obtain ⟨b51, e52, h53⟩ := qP_el h50; clear h50
  refine xv_getP (pc := 37) fn_802 (isb_el g49) e52 gw_284 dX11_least_37 ?_
  refine ev_iload_n (pc := 40) (i := 2) rfl rfl dX11_least_40 ?_
  obtain ⟨g54, h55⟩ := qk_el h53; clear h53
  obtain ⟨g56, h57⟩ := qk_el h55; clear h55
  obtain ⟨b58, e59, h60⟩ := qP_el h57; clear h57
  refine yv_aald (pc := 41) (isb_el g54) (by decide) (inb_el g56) e59 dX11_least_41 ?_
  obtain ⟨g61, h62⟩ := qk_el h60; clear h60
  obtain ⟨x63, e64, h65⟩ := qv_el h62; clear h62
  refine xv_getIv (pc := 42) fn_401 (isb_el g61) e64 gw_95 dX11_least_42 ?_
  cases h65
  exact ev_ireturn (pc := 45) rfl (nar_int _) rfl dX11_least_45
theorem dL_least_0 : decode cL_least 0 = .ok (.aload_n 3, 1) := by decide +kernel
theorem dL_least_1 : decode cL_least 1 = .ok (.iconst 0, 1) := by decide +kernel
theorem dL_least_2 : decode cL_least 2 = .ok (.aload_n 0, 1) := by decide +kernel
theorem dL_least_3 : decode cL_least 3 = .ok (.iload_n 1, 1) := by decide +kernel
theorem dL_least_4 : decode cL_least 4 = .ok (.iload_n 2, 1) := by decide +kernel
theorem dL_least_5 : decode cL_least 5 = .ok (.invokevirtual 46, 3) := by decide +kernel
theorem dL_least_8 : decode cL_least 8 = .ok (.i2l, 1) := by decide +kernel
theorem dL_least_9 : decode cL_least 9 = .ok (.lastore, 1) := by decide +kernel
theorem dL_least_10 : decode cL_least 10 = .ok (.goto 7, 3) := by decide +kernel
theorem dL_least_13 : decode cL_least 13 = .ok (.astore 4, 2) := by decide +kernel
theorem dL_least_15 : decode cL_least 15 = .ok (.iconst 1, 1) := by decide +kernel
theorem dL_least_16 : decode cL_least 16 = .ok (.ireturn, 1) := by decide +kernel
theorem dL_least_17 : decode cL_least 17 = .ok (.iconst 0, 1) := by decide +kernel
theorem dL_least_18 : decode cL_least 18 = .ok (.ireturn, 1) := by decide +kernel
theorem e_L_least {X : gk_X} {F : Nat} {k j : Nat} {S : gk_S} {p0 : Nat} {p1 : Int32} {p2 : Int32} {p3 : Nat} {r : (Int32 × gk_S)} (hb : r.1 = 0 ∨ (1 ≤ k ∧ 6 ≤ j)) (h0 : f_L_least F S p0 p1 p2 p3 = some r) : EvM X m_L_least 49 k j [.ref p0, .int p1, .int p2, .ref p3] S (qRI r) := by
  unfold f_L_least at h0
  refine ev_methodH (by decide +kernel) (by decide) rfl (Nat.le_of_ble_eq_true rfl) ?_
  show EvW X m_L_least 49 k j 0 [some (.ref p0), some (.int p1), some (.int p2), some (.ref p3), none] [] S _
  refine ev_aload_n (pc := 0) (i := 3) rfl rfl rfl dL_least_0 ?_
  refine ev_iconst (pc := 1) (v := 0) (by decide) dL_least_1 ?_
  refine ev_aload_n (pc := 2) (i := 0) rfl rfl rfl dL_least_2 ?_
  refine ev_iload_n (pc := 3) (i := 1) rfl rfl dL_least_3 ?_
  refine ev_iload_n (pc := 4) (i := 2) rfl rfl dL_least_4 ?_
  obtain ⟨g1, h2⟩ := qk_el h0; clear h0
  rcases qh_el h2 with ⟨E7, T8, e5, h6⟩ | ⟨x3, S4, e5, h6⟩
  · by_cases c9 : E7 = gx_I
    · replace h6 := qi_t h6 c9; subst c9
      have hb9 : 1 ≤ k ∧ 6 ≤ j := by cases h6; exact hb.resolve_left (show ¬ (1 : Int32) = 0 by decide)
      refine yv_catV (pc := 5) (st := [.int 0, .ref p3]) (as := [.int p1, .int p2]) (i9 := 4) (len9 := 2) (pre := []) (suf := []) (x := (0, 10, 13, 13)) (name := "java/lang/IndexOutOfBoundsException") ok_X11_least (e_X11_least (k := k) (j := j) (fun _ _ => hb9) e5) (isb_el g1) rfl (by intro z hz; cases hz) (by decide) (by decide) (by decide) gw_381 (by decide +kernel) (.inl ⟨rfl, rfl⟩) (by decide) rfl (gl9 rfl) (by decide) rfl (Nat.le_of_ble_eq_true rfl) rfl gw_910 dL_least_5 dL_least_13 ?_
      refine ev_iconst (pc := 15) (v := 1) (by decide) dL_least_15 ?_
      exact ev_ireturn (pc := 16) rfl rfl (by cases h6; rfl) dL_least_16
    replace h6 := qi_f h6 c9
    cases h6
  clear h2
  refine xv_callV (pc := 5) (st := [.int 0, .ref p3]) (as := [.int p1, .int p2]) (v := (some (.int x3))) (S' := S4) ok_X11_least (e_X11_least (k := 0) (j := 0) qb_inl e5) (isb_el g1) (by decide) rfl (Nat.le_of_ble_eq_true rfl) rfl gw_910 dL_least_5 ?_
  refine ev_i2l (pc := 8)  dL_least_8 ?_
  obtain ⟨g10, h11⟩ := qk_el h6; clear h6
  obtain ⟨g12, h13⟩ := qk_el h11; clear h11
  obtain ⟨S14, e15, h16⟩ := qv_el h13; clear h13
  refine yv_last (pc := 9) (isb_el g10) (inb_el g12) e15 dL_least_9 ?_
  refine ev_goto (pc := 10) (tgt := 17) (by decide) dL_least_10 ?_
  refine ev_iconst (pc := 17) (v := 0) (by decide) dL_least_17 ?_
  exact ev_ireturn (pc := 18) rfl (nar_int _) (qRI_eq h16) dL_least_18
theorem dX12_areAlike_0 : decode cX12_areAlike 0 = .ok (.aload_n 0, 1) := by decide +kernel
theorem dX12_areAlike_1 : decode cX12_areAlike 1 = .ok (.iload_n 1, 1) := by decide +kernel
theorem dX12_areAlike_2 : decode cX12_areAlike 2 = .ok (.putfield 289, 3) := by decide +kernel
theorem dX12_areAlike_5 : decode cX12_areAlike 5 = .ok (.aload_n 0, 1) := by decide +kernel
theorem dX12_areAlike_6 : decode cX12_areAlike 6 = .ok (.iload_n 2, 1) := by decide +kernel
theorem dX12_areAlike_7 : decode cX12_areAlike 7 = .ok (.putfield 296, 3) := by decide +kernel
theorem dX12_areAlike_10 : decode cX12_areAlike 10 = .ok (.aload_n 0, 1) := by decide +kernel
theorem dX12_areAlike_11 : decode cX12_areAlike 11 = .ok (.iconst (-1), 1) := by decide +kernel
theorem dX12_areAlike_12 : decode cX12_areAlike 12 = .ok (.putfield 283, 3) := by decide +kernel
theorem dX12_areAlike_15 : decode cX12_areAlike 15 = .ok (.aload_n 0, 1) := by decide +kernel
theorem dX12_areAlike_16 : decode cX12_areAlike 16 = .ok (.invokevirtual 327, 3) := by decide +kernel
theorem dX12_areAlike_19 : decode cX12_areAlike 19 = .ok (.aload_n 0, 1) := by decide +kernel
theorem dX12_areAlike_20 : decode cX12_areAlike 20 = .ok (.iconst 0, 1) := by decide +kernel
theorem dX12_areAlike_21 : decode cX12_areAlike 21 = .ok (.iconst 1, 1) := by decide +kernel
theorem dX12_areAlike_22 : decode cX12_areAlike 22 = .ok (.aload_n 0, 1) := by decide +kernel
theorem dX12_areAlike_23 : decode cX12_areAlike 23 = .ok (.getfield 46, 3) := by decide +kernel
theorem dX12_areAlike_26 : decode cX12_areAlike 26 = .ok (.iload_n 1, 1) := by decide +kernel
theorem dX12_areAlike_27 : decode cX12_areAlike 27 = .ok (.iaload, 1) := by decide +kernel
theorem dX12_areAlike_28 : decode cX12_areAlike 28 = .ok (.ishl, 1) := by decide +kernel
theorem dX12_areAlike_29 : decode cX12_areAlike 29 = .ok (.iconst 1, 1) := by decide +kernel
theorem dX12_areAlike_30 : decode cX12_areAlike 30 = .ok (.isub, 1) := by decide +kernel
theorem dX12_areAlike_31 : decode cX12_areAlike 31 = .ok (.iconst 1, 1) := by decide +kernel
theorem dX12_areAlike_32 : decode cX12_areAlike 32 = .ok (.aload_n 0, 1) := by decide +kernel
theorem dX12_areAlike_33 : decode cX12_areAlike 33 = .ok (.getfield 46, 3) := by decide +kernel
theorem dX12_areAlike_36 : decode cX12_areAlike 36 = .ok (.iload_n 2, 1) := by decide +kernel
theorem dX12_areAlike_37 : decode cX12_areAlike 37 = .ok (.iaload, 1) := by decide +kernel
theorem dX12_areAlike_38 : decode cX12_areAlike 38 = .ok (.ishl, 1) := by decide +kernel
theorem dX12_areAlike_39 : decode cX12_areAlike 39 = .ok (.iconst 1, 1) := by decide +kernel
theorem dX12_areAlike_40 : decode cX12_areAlike 40 = .ok (.isub, 1) := by decide +kernel
theorem dX12_areAlike_41 : decode cX12_areAlike 41 = .ok (.invokevirtual 320, 3) := by decide +kernel
theorem dX12_areAlike_44 : decode cX12_areAlike 44 = .ok (.ifCond .ne 7, 3) := by decide +kernel
theorem dX12_areAlike_47 : decode cX12_areAlike 47 = .ok (.iconst 1, 1) := by decide +kernel
theorem dX12_areAlike_48 : decode cX12_areAlike 48 = .ok (.goto 4, 3) := by decide +kernel
theorem dX12_areAlike_51 : decode cX12_areAlike 51 = .ok (.iconst 0, 1) := by decide +kernel
theorem dX12_areAlike_52 : decode cX12_areAlike 52 = .ok (.ireturn, 1) := by decide +kernel
theorem e_X12_areAlike {X : gk_X} {F : Nat} {S : gk_S} {a : Nat} {p0 : Int32} {p1 : Int32} {r : (Int32 × gk_S)} (h0 : f_X12_areAlike F S a p0 p1 = some r) : EvM X m_X12_areAlike 65 0 0 [.ref a, .int p0, .int p1] S (qRI r) := by
  unfold f_X12_areAlike at h0
  refine ev_method (by decide +kernel) rfl rfl (Nat.le_of_ble_eq_true rfl) ?_
  show EvW X m_X12_areAlike 65 0 0 0 [some (.ref a), some (.int p0), some (.int p1)] [] S _
  refine ev_aload_n (pc := 0) (i := 0) rfl rfl rfl dX12_areAlike_0 ?_
  refine ev_iload_n (pc := 1) (i := 1) rfl rfl dX12_areAlike_1 ?_
  obtain ⟨g1, h2⟩ := qk_el h0; clear h0
  obtain ⟨S3, e4, h5⟩ := qv_el h2; clear h2
  refine yv_putI (pc := 2) fn_926 ⟨rfl, rfl⟩ (isb_el g1) e4 gw_1166 dX12_areAlike_2 ?_
  refine ev_aload_n (pc := 5) (i := 0) rfl rfl rfl dX12_areAlike_5 ?_
  refine ev_iload_n (pc := 6) (i := 2) rfl rfl dX12_areAlike_6 ?_
  obtain ⟨S6, e7, h8⟩ := qv_el h5; clear h5
  refine yv_putI (pc := 7) fn_927 ⟨rfl, rfl⟩ (is_sI (isb_el g1) e4) e7 gw_1167 dX12_areAlike_7 ?_
  refine ev_aload_n (pc := 10) (i := 0) rfl rfl rfl dX12_areAlike_10 ?_
  refine ev_iconst (pc := 11) (v := -1) (by decide) dX12_areAlike_11 ?_
  obtain ⟨S9, e10, h11⟩ := qv_el h8; clear h8
  refine yv_putI (pc := 12) fn_930 ⟨rfl, rfl⟩ (is_sI (is_sI (isb_el g1) e4) e7) e10 gw_1170 dX12_areAlike_12 ?_
  refine ev_aload_n (pc := 15) (i := 0) rfl rfl rfl dX12_areAlike_15 ?_
  obtain ⟨x12, S13, e14, h15⟩ := qc_el h11; clear h11
  refine xv_callV (pc := 16) (st := []) (as := []) (v := none) (S' := S13) ok_X12_forgetVain (e_X12_forgetVain e14) (is_sI (is_sI (is_sI (isb_el g1) e4) e7) e10) (by decide) rfl (Nat.le_of_ble_eq_true rfl) rfl gw_1452 dX12_areAlike_16 ?_
  refine ev_aload_n (pc := 19) (i := 0) rfl rfl rfl dX12_areAlike_19 ?_
  refine ev_iconst (pc := 20) (v := 0) (by decide) dX12_areAlike_20 ?_
  refine ev_iconst (pc := 21) (v := 1) (by decide) dX12_areAlike_21 ?_
  refine ev_aload_n (pc := 22) (i := 0) rfl rfl rfl dX12_areAlike_22 ?_
  obtain ⟨g16, h17⟩ := qk_el h15; clear h15
  obtain ⟨b18, e19, h20⟩ := qP_el h17; clear h17
  refine xv_getP (pc := 23) fn_906 (isb_el g16) e19 gw_1146 dX12_areAlike_23 ?_
  refine ev_iload_n (pc := 26) (i := 1) rfl rfl dX12_areAlike_26 ?_
  obtain ⟨g21, h22⟩ := qk_el h20; clear h20
  obtain ⟨g23, h24⟩ := qk_el h22; clear h22
  obtain ⟨x25, e26, h27⟩ := qv_el h24; clear h24
  refine yv_iald (pc := 27) (isb_el g21) (inb_el g23) e26 dX12_areAlike_27 ?_
  refine ev_ishl (pc := 28)  dX12_areAlike_28 ?_
  refine ev_iconst (pc := 29) (v := 1) (by decide) dX12_areAlike_29 ?_
  refine ev_isub (pc := 30)  dX12_areAlike_30 ?_
  refine ev_iconst (pc := 31) (v := 1) (by decide) dX12_areAlike_31 ?_
  refine ev_aload_n (pc := 32) (i := 0) rfl rfl rfl dX12_areAlike_32 ?_
  obtain ⟨b28, e29, h30⟩ := qP_el h27; clear h27
  refine xv_getP (pc := 33) fn_906 (isb_el g16) e29 gw_1146 dX12_areAlike_33 ?_
  refine ev_iload_n (pc := 36) (i := 2) rfl rfl dX12_areAlike_36 ?_
  obtain ⟨g31, h32⟩ := qk_el h30; clear h30
  obtain ⟨g33, h34⟩ := qk_el h32; clear h32
  obtain ⟨x35, e36, h37⟩ := qv_el h34; clear h34
  refine yv_iald (pc := 37) (isb_el g31) (inb_el g33) e36 dX12_areAlike_37 ?_
  refine ev_ishl (pc := 38)  dX12_areAlike_38 ?_
  refine ev_iconst (pc := 39) (v := 1) (by decide) dX12_areAlike_39 ?_
  refine ev_isub (pc := 40)  dX12_areAlike_40 ?_
  obtain ⟨x38, S39, e40, h41⟩ := qc_el h37; clear h37
  refine xv_callV (pc := 41) (st := []) (as := [.int 0, .int (((1 : Int32) <<< ((x25 : Int32) &&& 31)) - 1), .int (((1 : Int32) <<< ((x35 : Int32) &&& 31)) - 1)]) (v := (some (.int x38))) (S' := S39) ok_X12_goesOn (e_X12_goesOn_r 8 _ _ _ _ _ _ e40) (isb_el g16) (by decide) rfl (Nat.le_of_ble_eq_true rfl) rfl gw_1456 dX12_areAlike_41 ?_
  refine ev_if_ne (pc := 44) (tgt := 51) (by decide) dX12_areAlike_44 (fun c42 => ?_) (fun c42 => ?_)
  · replace h41 := qi_f h41 c42
    refine ev_iconst (pc := 51) (v := 0) (by decide) dX12_areAlike_51 ?_
    exact ev_ireturn (pc := 52) rfl rfl (qRI_eq h41) dX12_areAlike_52
  · replace h41 := qi_t h41 c42
    refine ev_iconst (pc := 47) (v := 1) (by decide) dX12_areAlike_47 ?_
    refine ev_goto (pc := 48) (tgt := 52) (by decide) dX12_areAlike_48 ?_
    exact ev_ireturn (pc := 52) rfl rfl (qRI_eq h41) dX12_areAlike_52
theorem dX12_least_0 : decode cX12_least 0 = .ok (.aload_n 0, 1) := by decide +kernel
theorem dX12_least_1 : decode cX12_least 1 = .ok (.iload_n 1, 1) := by decide +kernel
theorem dX12_least_2 : decode cX12_least 2 = .ok (.invokevirtual 222, 3) := by decide +kernel
theorem dX12_least_5 : decode cX12_least 5 = .ok (.ifCond .ne 11, 3) := by decide +kernel
theorem dX12_least_8 : decode cX12_least 8 = .ok (.aload_n 0, 1) := by decide +kernel
theorem dX12_least_9 : decode cX12_least 9 = .ok (.iload_n 2, 1) := by decide +kernel
theorem dX12_least_10 : decode cX12_least 10 = .ok (.invokevirtual 222, 3) := by decide +kernel
theorem dX12_least_13 : decode cX12_least 13 = .ok (.ifCond .eq 5, 3) := by decide +kernel
theorem dX12_least_16 : decode cX12_least 16 = .ok (.iconst 0, 1) := by decide +kernel
theorem dX12_least_17 : decode cX12_least 17 = .ok (.ireturn, 1) := by decide +kernel
theorem dX12_least_18 : decode cX12_least 18 = .ok (.aload_n 0, 1) := by decide +kernel
theorem dX12_least_19 : decode cX12_least 19 = .ok (.iload_n 1, 1) := by decide +kernel
theorem dX12_least_20 : decode cX12_least 20 = .ok (.iconst 4, 1) := by decide +kernel
theorem dX12_least_21 : decode cX12_least 21 = .ok (.invokevirtual 183, 3) := by decide +kernel
theorem dX12_least_24 : decode cX12_least 24 = .ok (.aload_n 0, 1) := by decide +kernel
theorem dX12_least_25 : decode cX12_least 25 = .ok (.getfield 46, 3) := by decide +kernel
theorem dX12_least_28 : decode cX12_least 28 = .ok (.iconst 4, 1) := by decide +kernel
theorem dX12_least_29 : decode cX12_least 29 = .ok (.iaload, 1) := by decide +kernel
theorem dX12_least_30 : decode cX12_least 30 = .ok (.iconst 1, 1) := by decide +kernel
theorem dX12_least_31 : decode cX12_least 31 = .ok (.isub, 1) := by decide +kernel
theorem dX12_least_32 : decode cX12_least 32 = .ok (.istore_n 3, 1) := by decide +kernel
theorem dX12_least_33 : decode cX12_least 33 = .ok (.iload_n 3, 1) := by decide +kernel
theorem dX12_least_34 : decode cX12_least 34 = .ok (.ifCond .lt 100, 3) := by decide +kernel
theorem dX12_least_37 : decode cX12_least 37 = .ok (.aload_n 0, 1) := by decide +kernel
theorem dX12_least_38 : decode cX12_least 38 = .ok (.getfield 43, 3) := by decide +kernel
theorem dX12_least_41 : decode cX12_least 41 = .ok (.iconst 5, 1) := by decide +kernel
theorem dX12_least_42 : decode cX12_least 42 = .ok (.aload_n 0, 1) := by decide +kernel
theorem dX12_least_43 : decode cX12_least 43 = .ok (.getfield 43, 3) := by decide +kernel
theorem dX12_least_46 : decode cX12_least 46 = .ok (.iconst 4, 1) := by decide +kernel
theorem dX12_least_47 : decode cX12_least 47 = .ok (.iaload, 1) := by decide +kernel
theorem dX12_least_48 : decode cX12_least 48 = .ok (.iastore, 1) := by decide +kernel
theorem dX12_least_49 : decode cX12_least 49 = .ok (.aload_n 0, 1) := by decide +kernel
theorem dX12_least_50 : decode cX12_least 50 = .ok (.getfield 46, 3) := by decide +kernel
theorem dX12_least_53 : decode cX12_least 53 = .ok (.iconst 5, 1) := by decide +kernel
theorem dX12_least_54 : decode cX12_least 54 = .ok (.iconst 0, 1) := by decide +kernel
theorem dX12_least_55 : decode cX12_least 55 = .ok (.iastore, 1) := by decide +kernel
theorem dX12_least_56 : decode cX12_least 56 = .ok (.iconst 0, 1) := by decide +kernel
theorem dX12_least_57 : decode cX12_least 57 = .ok (.istore 4, 2) := by decide +kernel
theorem dX12_least_59 : decode cX12_least 59 = .ok (.iload 4, 2) := by decide +kernel
theorem dX12_least_61 : decode cX12_least 61 = .ok (.aload_n 0, 1) := by decide +kernel
theorem dX12_least_62 : decode cX12_least 62 = .ok (.getfield 46, 3) := by decide +kernel
theorem dX12_least_65 : decode cX12_least 65 = .ok (.iconst 4, 1) := by decide +kernel
theorem dX12_least_66 : decode cX12_least 66 = .ok (.iaload, 1) := by decide +kernel
theorem dX12_least_67 : decode cX12_least 67 = .ok (.if_icmp .ge 46, 3) := by decide +kernel
theorem dX12_least_70 : decode cX12_least 70 = .ok (.iload 4, 2) := by decide +kernel
theorem dX12_least_72 : decode cX12_least 72 = .ok (.iload_n 3, 1) := by decide +kernel
theorem dX12_least_73 : decode cX12_least 73 = .ok (.if_icmp .ne 6, 3) := by decide +kernel
theorem dX12_least_76 : decode cX12_least 76 = .ok (.goto 31, 3) := by decide +kernel
theorem dX12_least_79 : decode cX12_least 79 = .ok (.aload_n 0, 1) := by decide +kernel
theorem dX12_least_80 : decode cX12_least 80 = .ok (.bipush 64, 2) := by decide +kernel
theorem dX12_least_82 : decode cX12_least 82 = .ok (.iload 4, 2) := by decide +kernel
theorem dX12_least_84 : decode cX12_least 84 = .ok (.iadd, 1) := by decide +kernel
theorem dX12_least_85 : decode cX12_least 85 = .ok (.bipush 80, 2) := by decide +kernel
theorem dX12_least_87 : decode cX12_least 87 = .ok (.aload_n 0, 1) := by decide +kernel
theorem dX12_least_88 : decode cX12_least 88 = .ok (.getfield 46, 3) := by decide +kernel
theorem dX12_least_91 : decode cX12_least 91 = .ok (.iconst 5, 1) := by decide +kernel
theorem dX12_least_92 : decode cX12_least 92 = .ok (.iaload, 1) := by decide +kernel
theorem dX12_least_93 : decode cX12_least 93 = .ok (.iadd, 1) := by decide +kernel
theorem dX12_least_94 : decode cX12_least 94 = .ok (.invokevirtual 49, 3) := by decide +kernel
theorem dX12_least_97 : decode cX12_least 97 = .ok (.aload_n 0, 1) := by decide +kernel
theorem dX12_least_98 : decode cX12_least 98 = .ok (.getfield 46, 3) := by decide +kernel
theorem dX12_least_101 : decode cX12_least 101 = .ok (.iconst 5, 1) := by decide +kernel
theorem dX12_least_102 : decode cX12_least 102 = .ok (.dup2, 1) := by decide +kernel
theorem dX12_least_103 : decode cX12_least 103 = .ok (.iaload, 1) := by decide +kernel
theorem dX12_least_104 : decode cX12_least 104 = .ok (.iconst 1, 1) := by decide +kernel
theorem dX12_least_105 : decode cX12_least 105 = .ok (.iadd, 1) := by decide +kernel
theorem dX12_least_106 : decode cX12_least 106 = .ok (.iastore, 1) := by decide +kernel
theorem dX12_least_107 : decode cX12_least 107 = .ok (.iinc 4 1, 3) := by decide +kernel
theorem dX12_least_110 : decode cX12_least 110 = .ok (.goto (-51), 3) := by decide +kernel
theorem dX12_least_113 : decode cX12_least 113 = .ok (.aload_n 0, 1) := by decide +kernel
theorem dX12_least_114 : decode cX12_least 114 = .ok (.iconst 4, 1) := by decide +kernel
theorem dX12_least_115 : decode cX12_least 115 = .ok (.iconst 5, 1) := by decide +kernel
theorem dX12_least_116 : decode cX12_least 116 = .ok (.invokevirtual 337, 3) := by decide +kernel
theorem dX12_least_119 : decode cX12_least 119 = .ok (.ifCond .eq 9, 3) := by decide +kernel
theorem dX12_least_122 : decode cX12_least 122 = .ok (.aload_n 0, 1) := by decide +kernel
theorem dX12_least_123 : decode cX12_least 123 = .ok (.iconst 5, 1) := by decide +kernel
theorem dX12_least_124 : decode cX12_least 124 = .ok (.iconst 4, 1) := by decide +kernel
theorem dX12_least_125 : decode cX12_least 125 = .ok (.invokevirtual 183, 3) := by decide +kernel
theorem dX12_least_128 : decode cX12_least 128 = .ok (.iinc 3 (-1), 3) := by decide +kernel
theorem dX12_least_131 : decode cX12_least 131 = .ok (.goto (-98), 3) := by decide +kernel
theorem dX12_least_134 : decode cX12_least 134 = .ok (.aload_n 0, 1) := by decide +kernel
theorem dX12_least_135 : decode cX12_least 135 = .ok (.iconst 4, 1) := by decide +kernel
theorem dX12_least_136 : decode cX12_least 136 = .ok (.iload_n 2, 1) := by decide +kernel
theorem dX12_least_137 : decode cX12_least 137 = .ok (.invokevirtual 183, 3) := by decide +kernel
theorem dX12_least_140 : decode cX12_least 140 = .ok (.iload_n 2, 1) := by decide +kernel
theorem dX12_least_141 : decode cX12_least 141 = .ok (.ifCond .ne 7, 3) := by decide +kernel
theorem dX12_least_144 : decode cX12_least 144 = .ok (.aload_n 0, 1) := by decide +kernel
theorem dX12_least_145 : decode cX12_least 145 = .ok (.invokevirtual 186, 3) := by decide +kernel
theorem dX12_least_148 : decode cX12_least 148 = .ok (.aload_n 0, 1) := by decide +kernel
theorem dX12_least_149 : decode cX12_least 149 = .ok (.getfield 46, 3) := by decide +kernel
theorem dX12_least_152 : decode cX12_least 152 = .ok (.iload_n 2, 1) := by decide +kernel
theorem dX12_least_153 : decode cX12_least 153 = .ok (.iaload, 1) := by decide +kernel
theorem dX12_least_154 : decode cX12_least 154 = .ok (.ireturn, 1) := by decide +kernel
theorem e_X12_least_59 {X : gk_X} {F : Nat} {k33 : Nat → Int32 → Int32 → gk_S → Option (Int32 × gk_S)} (hk33 : ∀ (l0 : Nat) (l2 : Int32) (l3 : Int32) (S : gk_S) (r : (Int32 × gk_S)), k33 l0 l2 l3 S = some r → EvW X m_X12_least 66 0 0 33 [some (.ref l0), none, some (.int l2), some (.int l3), none] [] S (qRI r)) : ∀ (n : Nat) (l0 : Nat) (l2 : Int32) (l3 : Int32) (l4 : Int32) (S : gk_S) (r : (Int32 × gk_S)), f_X12_least_59 F k33 n l0 l2 l3 l4 S = some r → EvW X m_X12_least 66 0 0 59 [some (.ref l0), none, some (.int l2), some (.int l3), some (.int l4)] [] S (qRI r) := by
  intro n
  induction n with
  | zero => intro l0 l2 l3 l4 S r h0; rw [f_X12_least_59] at h0; cases h0
  | succ n ih =>
    intro l0 l2 l3 l4 S r h0; rw [f_X12_least_59] at h0
    refine ev_iload (pc := 59) (i := 4) rfl dX12_least_59 ?_
    refine ev_aload_n (pc := 61) (i := 0) rfl rfl rfl dX12_least_61 ?_
    obtain ⟨g107, h108⟩ := qk_el h0; clear h0
    obtain ⟨b109, e110, h111⟩ := qP_el h108; clear h108
    refine xv_getP (pc := 62) fn_906 (isb_el g107) e110 gw_1146 dX12_least_62 ?_
    refine ev_iconst (pc := 65) (v := 4) (by decide) dX12_least_65 ?_
    obtain ⟨g112, h113⟩ := qk_el h111; clear h111
    obtain ⟨g114, h115⟩ := qk_el h113; clear h113
    obtain ⟨x116, e117, h118⟩ := qv_el h115; clear h115
    refine yv_iald (pc := 66) (isb_el g112) (inb_el g114) e117 dX12_least_66 ?_
    refine ev_ic_ge (pc := 67) (tgt := 113) (by decide) dX12_least_67 (fun c119 => ?_) (fun c119 => ?_)
    · replace h118 := qi_t h118 c119
      refine ev_aload_n (pc := 113) (i := 0) rfl rfl rfl dX12_least_113 ?_
      refine ev_iconst (pc := 114) (v := 4) (by decide) dX12_least_114 ?_
      refine ev_iconst (pc := 115) (v := 5) (by decide) dX12_least_115 ?_
      obtain ⟨x121, S122, e123, h124⟩ := qc_el h118; clear h118
      refine xv_callV (pc := 116) (st := []) (as := [.int 4, .int 5]) (v := (some (.int x121))) (S' := S122) ok_X12_areAlike (e_X12_areAlike e123) (isb_el g107) (by decide) rfl (Nat.le_of_ble_eq_true rfl) rfl gw_1527 dX12_least_116 ?_
      refine ev_if_eq (pc := 119) (tgt := 128) (by decide) dX12_least_119 (fun c125 => ?_) (fun c125 => ?_)
      · replace h124 := qi_t h124 c125
        refine ev_iinc (pc := 128) (L' := [some (.ref l0), none, some (.int l2), some (.int (l3 + (-1))), some (.int l4)]) (i := 3) (v := (l3 + (-1))) rfl (congrArg (l3 + ·) (by decide)) (by decide) rfl rfl dX12_least_128 ?_
        refine ev_goto (pc := 131) (tgt := 33) (by decide) dX12_least_131 ?_
        exact ev_weak (qL_s (qL_n (qL_s (qL_s (qL_n qL_nil))))) (hk33 _ _ _ _ _ h124)
      · replace h124 := qi_f h124 c125
        refine ev_aload_n (pc := 122) (i := 0) rfl rfl rfl dX12_least_122 ?_
        refine ev_iconst (pc := 123) (v := 5) (by decide) dX12_least_123 ?_
        refine ev_iconst (pc := 124) (v := 4) (by decide) dX12_least_124 ?_
        obtain ⟨g127, h128⟩ := qk_el h124; clear h124
        obtain ⟨x129, S130, e131, h132⟩ := qc_el h128; clear h128
        refine xv_callV (pc := 125) (st := []) (as := [.int 5, .int 4]) (v := none) (S' := S130) ok_X12_copyList (e_X12_copyList e131) (isb_el g127) (by decide) rfl (Nat.le_of_ble_eq_true rfl) rfl gw_1367 dX12_least_125 ?_
        refine ev_iinc (pc := 128) (L' := [some (.ref l0), none, some (.int l2), some (.int (l3 + (-1))), some (.int l4)]) (i := 3) (v := (l3 + (-1))) rfl (congrArg (l3 + ·) (by decide)) (by decide) rfl rfl dX12_least_128 ?_
        refine ev_goto (pc := 131) (tgt := 33) (by decide) dX12_least_131 ?_
        exact ev_weak (qL_s (qL_n (qL_s (qL_s (qL_n qL_nil))))) (hk33 _ _ _ _ _ h132)
    · replace h118 := qi_f h118 c119
      refine ev_iload (pc := 70) (i := 4) rfl dX12_least_70 ?_
      refine ev_iload_n (pc := 72) (i := 3) rfl rfl dX12_least_72 ?_
      refine ev_ic_ne (pc := 73) (tgt := 79) (by decide) dX12_least_73 (fun c133 => ?_) (fun c133 => ?_)
      · replace h118 := qi_f h118 c133
        refine ev_aload_n (pc := 79) (i := 0) rfl rfl rfl dX12_least_79 ?_
        refine ev_bipush (pc := 80) (v := 64) (by decide) dX12_least_80 ?_
        refine ev_iload (pc := 82) (i := 4) rfl dX12_least_82 ?_
        refine ev_iadd (pc := 84)  dX12_least_84 ?_
        refine ev_bipush (pc := 85) (v := 80) (by decide) dX12_least_85 ?_
        refine ev_aload_n (pc := 87) (i := 0) rfl rfl rfl dX12_least_87 ?_
        obtain ⟨b135, e136, h137⟩ := qP_el h118; clear h118
        refine xv_getP (pc := 88) fn_906 (isb_el g107) e136 gw_1146 dX12_least_88 ?_
        refine ev_iconst (pc := 91) (v := 5) (by decide) dX12_least_91 ?_
        obtain ⟨g138, h139⟩ := qk_el h137; clear h137
        obtain ⟨g140, h141⟩ := qk_el h139; clear h139
        obtain ⟨x142, e143, h144⟩ := qv_el h141; clear h141
        refine yv_iald (pc := 92) (isb_el g138) (inb_el g140) e143 dX12_least_92 ?_
        refine ev_iadd (pc := 93)  dX12_least_93 ?_
        obtain ⟨x145, S146, e147, h148⟩ := qc_el h144; clear h144
        refine xv_callV (pc := 94) (st := []) (as := [.int (64 + l4), .int (80 + x142)]) (v := none) (S' := S146) ok_X12_copyRule (e_X12_copyRule e147) (isb_el g107) (by decide) rfl (Nat.le_of_ble_eq_true rfl) rfl gw_1371 dX12_least_94 ?_
        refine ev_aload_n (pc := 97) (i := 0) rfl rfl rfl dX12_least_97 ?_
        obtain ⟨g149, h150⟩ := qk_el h148; clear h148
        obtain ⟨b151, e152, h153⟩ := qP_el h150; clear h150
        refine xv_getP (pc := 98) fn_906 (isb_el g149) e152 gw_1146 dX12_least_98 ?_
        refine ev_iconst (pc := 101) (v := 5) (by decide) dX12_least_101 ?_
        refine ev_dup2 (pc := 102) rfl dX12_least_102 ?_
        obtain ⟨g154, h155⟩ := qk_el h153; clear h153
        obtain ⟨g156, h157⟩ := qk_el h155; clear h155
        obtain ⟨x158, e159, h160⟩ := qv_el h157; clear h157
        refine yv_iald (pc := 103) (isb_el g154) (inb_el g156) e159 dX12_least_103 ?_
        refine ev_iconst (pc := 104) (v := 1) (by decide) dX12_least_104 ?_
        refine ev_iadd (pc := 105)  dX12_least_105 ?_
        obtain ⟨g161, h162⟩ := qk_el h160; clear h160
        obtain ⟨S163, e164, h165⟩ := qv_el h162; clear h162
        refine yv_iast (pc := 106) (isb_el g154) (inb_el g161) e164 dX12_least_106 ?_
        refine ev_iinc (pc := 107) (L' := [some (.ref l0), none, some (.int l2), some (.int l3), some (.int (l4 + 1))]) (i := 4) (v := (l4 + 1)) rfl rfl (by decide) rfl rfl dX12_least_107 ?_
        refine ev_goto (pc := 110) (tgt := 59) (by decide) dX12_least_110 ?_
        exact (ev_weak (qL_s (qL_n (qL_s (qL_s (qL_s qL_nil))))) (ih _ _ _ _ _ _ h165))
      · replace h118 := qi_t h118 c133
        refine ev_goto (pc := 76) (tgt := 107) (by decide) dX12_least_76 ?_
        refine ev_iinc (pc := 107) (L' := [some (.ref l0), none, some (.int l2), some (.int l3), some (.int (l4 + 1))]) (i := 4) (v := (l4 + 1)) rfl rfl (by decide) rfl rfl dX12_least_107 ?_
        refine ev_goto (pc := 110) (tgt := 59) (by decide) dX12_least_110 ?_
        exact (ev_weak (qL_s (qL_n (qL_s (qL_s (qL_s qL_nil))))) (ih _ _ _ _ _ _ h118))
theorem e_X12_least_33 {X : gk_X} {F : Nat} : ∀ (n : Nat) (l0 : Nat) (l2 : Int32) (l3 : Int32) (S : gk_S) (r : (Int32 × gk_S)), f_X12_least_33 F n l0 l2 l3 S = some r → EvW X m_X12_least 66 0 0 33 [some (.ref l0), none, some (.int l2), some (.int l3), none] [] S (qRI r) := by
  intro n
  induction n with
  | zero => intro l0 l2 l3 S r h0; rw [f_X12_least_33] at h0; cases h0
  | succ n ih =>
    intro l0 l2 l3 S r h0; rw [f_X12_least_33] at h0
    refine ev_iload_n (pc := 33) (i := 3) rfl rfl dX12_least_33 ?_
    refine ev_if_lt (pc := 34) (tgt := 134) (by decide) dX12_least_34 (fun c35 => ?_) (fun c35 => ?_)
    · replace h0 := qi_t h0 c35
      refine ev_aload_n (pc := 134) (i := 0) rfl rfl rfl dX12_least_134 ?_
      refine ev_iconst (pc := 135) (v := 4) (by decide) dX12_least_135 ?_
      refine ev_iload_n (pc := 136) (i := 2) rfl rfl dX12_least_136 ?_
      obtain ⟨g37, h38⟩ := qk_el h0; clear h0
      obtain ⟨x39, S40, e41, h42⟩ := qc_el h38; clear h38
      refine xv_callV (pc := 137) (st := []) (as := [.int 4, .int l2]) (v := none) (S' := S40) ok_X12_copyList (e_X12_copyList e41) (isb_el g37) (by decide) rfl (Nat.le_of_ble_eq_true rfl) rfl gw_1367 dX12_least_137 ?_
      refine ev_iload_n (pc := 140) (i := 2) rfl rfl dX12_least_140 ?_
      refine ev_if_ne (pc := 141) (tgt := 148) (by decide) dX12_least_141 (fun c43 => ?_) (fun c43 => ?_)
      · replace h42 := qi_f h42 c43
        refine ev_aload_n (pc := 148) (i := 0) rfl rfl rfl dX12_least_148 ?_
        obtain ⟨g45, h46⟩ := qk_el h42; clear h42
        obtain ⟨b47, e48, h49⟩ := qP_el h46; clear h46
        refine xv_getP (pc := 149) fn_906 (isb_el g45) e48 gw_1146 dX12_least_149 ?_
        refine ev_iload_n (pc := 152) (i := 2) rfl rfl dX12_least_152 ?_
        obtain ⟨g50, h51⟩ := qk_el h49; clear h49
        obtain ⟨g52, h53⟩ := qk_el h51; clear h51
        obtain ⟨x54, e55, h56⟩ := qv_el h53; clear h53
        refine yv_iald (pc := 153) (isb_el g50) (inb_el g52) e55 dX12_least_153 ?_
        exact ev_ireturn (pc := 154) rfl (nar_int _) (qRI_eq h56) dX12_least_154
      · replace h42 := qi_t h42 c43
        refine ev_aload_n (pc := 144) (i := 0) rfl rfl rfl dX12_least_144 ?_
        obtain ⟨g57, h58⟩ := qk_el h42; clear h42
        obtain ⟨x59, S60, e61, h62⟩ := qc_el h58; clear h58
        refine xv_callV (pc := 145) (st := []) (as := []) (v := none) (S' := S60) ok_X12_forgetTold (e_X12_forgetTold e61) (isb_el g57) (by decide) rfl (Nat.le_of_ble_eq_true rfl) rfl gw_1375 dX12_least_145 ?_
        refine ev_aload_n (pc := 148) (i := 0) rfl rfl rfl dX12_least_148 ?_
        obtain ⟨g63, h64⟩ := qk_el h62; clear h62
        obtain ⟨b65, e66, h67⟩ := qP_el h64; clear h64
        refine xv_getP (pc := 149) fn_906 (isb_el g63) e66 gw_1146 dX12_least_149 ?_
        refine ev_iload_n (pc := 152) (i := 2) rfl rfl dX12_least_152 ?_
        obtain ⟨g68, h69⟩ := qk_el h67; clear h67
        obtain ⟨g70, h71⟩ := qk_el h69; clear h69
        obtain ⟨x72, e73, h74⟩ := qv_el h71; clear h71
        refine yv_iald (pc := 153) (isb_el g68) (inb_el g70) e73 dX12_least_153 ?_
        exact ev_ireturn (pc := 154) rfl (nar_int _) (qRI_eq h74) dX12_least_154
    · replace h0 := qi_f h0 c35
      refine ev_aload_n (pc := 37) (i := 0) rfl rfl rfl dX12_least_37 ?_
      obtain ⟨g75, h76⟩ := qk_el h0; clear h0
      obtain ⟨b77, e78, h79⟩ := qP_el h76; clear h76
      refine xv_getP (pc := 38) fn_905 (isb_el g75) e78 gw_1145 dX12_least_38 ?_
      refine ev_iconst (pc := 41) (v := 5) (by decide) dX12_least_41 ?_
      refine ev_aload_n (pc := 42) (i := 0) rfl rfl rfl dX12_least_42 ?_
      obtain ⟨b80, e81, h82⟩ := qP_el h79; clear h79
      refine xv_getP (pc := 43) fn_905 (isb_el g75) e81 gw_1145 dX12_least_43 ?_
      refine ev_iconst (pc := 46) (v := 4) (by decide) dX12_least_46 ?_
      obtain ⟨g83, h84⟩ := qk_el h82; clear h82
      obtain ⟨g85, h86⟩ := qk_el h84; clear h84
      obtain ⟨x87, e88, h89⟩ := qv_el h86; clear h86
      refine yv_iald (pc := 47) (isb_el g83) (inb_el g85) e88 dX12_least_47 ?_
      obtain ⟨g90, h91⟩ := qk_el h89; clear h89
      obtain ⟨g92, h93⟩ := qk_el h91; clear h91
      obtain ⟨S94, e95, h96⟩ := qv_el h93; clear h93
      refine yv_iast (pc := 48) (isb_el g90) (inb_el g92) e95 dX12_least_48 ?_
      refine ev_aload_n (pc := 49) (i := 0) rfl rfl rfl dX12_least_49 ?_
      obtain ⟨b97, e98, h99⟩ := qP_el h96; clear h96
      refine xv_getP (pc := 50) fn_906 (is_wI (isb_el g75) e95) e98 gw_1146 dX12_least_50 ?_
      refine ev_iconst (pc := 53) (v := 5) (by decide) dX12_least_53 ?_
      refine ev_iconst (pc := 54) (v := 0) (by decide) dX12_least_54 ?_
      obtain ⟨g100, h101⟩ := qk_el h99; clear h99
      obtain ⟨g102, h103⟩ := qk_el h101; clear h101
      obtain ⟨S104, e105, h106⟩ := qv_el h103; clear h103
      refine yv_iast (pc := 55) (isb_el g100) (inb_el g102) e105 dX12_least_55 ?_
      refine ev_iconst (pc := 56) (v := 0) (by decide) dX12_least_56 ?_
      refine ev_istore (pc := 57) (L' := [some (.ref l0), none, some (.int l2), some (.int l3), some (.int 0)]) (i := 4) (by decide) rfl rfl dX12_least_57 ?_
      exact ev_weak (qL_s (qL_n (qL_s (qL_s (qL_s qL_nil))))) (e_X12_least_59 ih F _ _ _ _ _ _ h106)
theorem e_X12_least {X : gk_X} {F : Nat} {S : gk_S} {a : Nat} {p0 : Int32} {p1 : Int32} {r : (Int32 × gk_S)} (h0 : f_X12_least F S a p0 p1 = some r) : EvM X m_X12_least 66 0 0 [.ref a, .int p0, .int p1] S (qRI r) := by
  unfold f_X12_least at h0
  refine ev_method (by decide +kernel) rfl rfl (Nat.le_of_ble_eq_true rfl) ?_
  show EvW X m_X12_least 66 0 0 0 [some (.ref a), some (.int p0), some (.int p1), none, none] [] S _
  refine ev_aload_n (pc := 0) (i := 0) rfl rfl rfl dX12_least_0 ?_
  refine ev_iload_n (pc := 1) (i := 1) rfl rfl dX12_least_1 ?_
  obtain ⟨g1, h2⟩ := qk_el h0; clear h0
  obtain ⟨x3, S4, e5, h6⟩ := qc_el h2; clear h2
  refine xv_callV (pc := 2) (st := []) (as := [.int p0]) (v := (some (.int x3))) (S' := S4) ok_X12_noList (e_X12_noList e5) (isb_el g1) (by decide) rfl (Nat.le_of_ble_eq_true rfl) rfl gw_1387 dX12_least_2 ?_
  refine ev_if_ne (pc := 5) (tgt := 16) (by decide) dX12_least_5 (fun c7 => ?_) (fun c7 => ?_)
  · replace h6 := qi_f h6 c7
    refine ev_iconst (pc := 16) (v := 0) (by decide) dX12_least_16 ?_
    exact ev_ireturn (pc := 17) rfl (nar_int _) (qRI_eq h6) dX12_least_17
  · replace h6 := qi_t h6 c7
    refine ev_aload_n (pc := 8) (i := 0) rfl rfl rfl dX12_least_8 ?_
    refine ev_iload_n (pc := 9) (i := 2) rfl rfl dX12_least_9 ?_
    obtain ⟨g9, h10⟩ := qk_el h6; clear h6
    obtain ⟨x11, S12, e13, h14⟩ := qc_el h10; clear h10
    refine xv_callV (pc := 10) (st := []) (as := [.int p1]) (v := (some (.int x11))) (S' := S12) ok_X12_noList (e_X12_noList e13) (isb_el g9) (by decide) rfl (Nat.le_of_ble_eq_true rfl) rfl gw_1387 dX12_least_10 ?_
    refine ev_if_eq (pc := 13) (tgt := 18) (by decide) dX12_least_13 (fun c15 => ?_) (fun c15 => ?_)
    · replace h14 := qi_t h14 c15
      refine ev_aload_n (pc := 18) (i := 0) rfl rfl rfl dX12_least_18 ?_
      refine ev_iload_n (pc := 19) (i := 1) rfl rfl dX12_least_19 ?_
      refine ev_iconst (pc := 20) (v := 4) (by decide) dX12_least_20 ?_
      obtain ⟨g17, h18⟩ := qk_el h14; clear h14
      obtain ⟨x19, S20, e21, h22⟩ := qc_el h18; clear h18
      refine xv_callV (pc := 21) (st := []) (as := [.int p0, .int 4]) (v := none) (S' := S20) ok_X12_copyList (e_X12_copyList e21) (isb_el g17) (by decide) rfl (Nat.le_of_ble_eq_true rfl) rfl gw_1367 dX12_least_21 ?_
      refine ev_aload_n (pc := 24) (i := 0) rfl rfl rfl dX12_least_24 ?_
      obtain ⟨g23, h24⟩ := qk_el h22; clear h22
      obtain ⟨b25, e26, h27⟩ := qP_el h24; clear h24
      refine xv_getP (pc := 25) fn_906 (isb_el g23) e26 gw_1146 dX12_least_25 ?_
      refine ev_iconst (pc := 28) (v := 4) (by decide) dX12_least_28 ?_
      obtain ⟨g28, h29⟩ := qk_el h27; clear h27
      obtain ⟨g30, h31⟩ := qk_el h29; clear h29
      obtain ⟨x32, e33, h34⟩ := qv_el h31; clear h31
      refine yv_iald (pc := 29) (isb_el g28) (inb_el g30) e33 dX12_least_29 ?_
      refine ev_iconst (pc := 30) (v := 1) (by decide) dX12_least_30 ?_
      refine ev_isub (pc := 31)  dX12_least_31 ?_
      refine ev_istore_n (pc := 32) (L' := [some (.ref a), some (.int p0), some (.int p1), some (.int (x32 - 1)), none]) (i := 3) rfl (by decide) rfl rfl dX12_least_32 ?_
      exact ev_weak (qL_s (qL_n (qL_s (qL_s (qL_n qL_nil))))) (e_X12_least_33 F _ _ _ _ _ h34)
    · replace h14 := qi_f h14 c15
      refine ev_iconst (pc := 16) (v := 0) (by decide) dX12_least_16 ?_
      exact ev_ireturn (pc := 17) rfl (nar_int _) (qRI_eq h14) dX12_least_17
theorem dX8_setTime_0 : decode cX8_setTime 0 = .ok (.iload_n 1, 1) := by decide +kernel
theorem dX8_setTime_1 : decode cX8_setTime 1 = .ok (.aload_n 0, 1) := by decide +kernel
theorem dX8_setTime_2 : decode cX8_setTime 2 = .ok (.getfield 25, 3) := by decide +kernel
theorem dX8_setTime_5 : decode cX8_setTime 5 = .ok (.if_icmp .lt 9, 3) := by decide +kernel
theorem dX8_setTime_8 : decode cX8_setTime 8 = .ok (.iload_n 1, 1) := by decide +kernel
theorem dX8_setTime_9 : decode cX8_setTime 9 = .ok (.ldc 34, 2) := by decide +kernel
theorem dX8_setTime_11 : decode cX8_setTime 11 = .ok (.if_icmp .le 5, 3) := by decide +kernel
theorem dX8_setTime_14 : decode cX8_setTime 14 = .ok (.iconst 0, 1) := by decide +kernel
theorem dX8_setTime_15 : decode cX8_setTime 15 = .ok (.ireturn, 1) := by decide +kernel
theorem dX8_setTime_16 : decode cX8_setTime 16 = .ok (.aload_n 0, 1) := by decide +kernel
theorem dX8_setTime_17 : decode cX8_setTime 17 = .ok (.iload_n 1, 1) := by decide +kernel
theorem dX8_setTime_18 : decode cX8_setTime 18 = .ok (.putfield 25, 3) := by decide +kernel
theorem dX8_setTime_21 : decode cX8_setTime 21 = .ok (.aload_n 0, 1) := by decide +kernel
theorem dX8_setTime_22 : decode cX8_setTime 22 = .ok (.getfield 18, 3) := by decide +kernel
theorem dX8_setTime_25 : decode cX8_setTime 25 = .ok (.iconst 1, 1) := by decide +kernel
theorem dX8_setTime_26 : decode cX8_setTime 26 = .ok (.isub, 1) := by decide +kernel
theorem dX8_setTime_27 : decode cX8_setTime 27 = .ok (.istore_n 2, 1) := by decide +kernel
theorem dX8_setTime_28 : decode cX8_setTime 28 = .ok (.iload_n 2, 1) := by decide +kernel
theorem dX8_setTime_29 : decode cX8_setTime 29 = .ok (.ifCond .lt 29, 3) := by decide +kernel
theorem dX8_setTime_32 : decode cX8_setTime 32 = .ok (.aload_n 0, 1) := by decide +kernel
theorem dX8_setTime_33 : decode cX8_setTime 33 = .ok (.iload_n 2, 1) := by decide +kernel
theorem dX8_setTime_34 : decode cX8_setTime 34 = .ok (.invokevirtual 35, 3) := by decide +kernel
theorem dX8_setTime_37 : decode cX8_setTime 37 = .ok (.getfield 39, 3) := by decide +kernel
theorem dX8_setTime_40 : decode cX8_setTime 40 = .ok (.aload_n 0, 1) := by decide +kernel
theorem dX8_setTime_41 : decode cX8_setTime 41 = .ok (.getfield 25, 3) := by decide +kernel
theorem dX8_setTime_44 : decode cX8_setTime 44 = .ok (.if_icmp .gt 8, 3) := by decide +kernel
theorem dX8_setTime_47 : decode cX8_setTime 47 = .ok (.aload_n 0, 1) := by decide +kernel
theorem dX8_setTime_48 : decode cX8_setTime 48 = .ok (.iload_n 2, 1) := by decide +kernel
theorem dX8_setTime_49 : decode cX8_setTime 49 = .ok (.invokevirtual 42, 3) := by decide +kernel
theorem dX8_setTime_52 : decode cX8_setTime 52 = .ok (.iinc 2 (-1), 3) := by decide +kernel
theorem dX8_setTime_55 : decode cX8_setTime 55 = .ok (.goto (-27), 3) := by decide +kernel
theorem dX8_setTime_58 : decode cX8_setTime 58 = .ok (.iconst 1, 1) := by decide +kernel
theorem dX8_setTime_59 : decode cX8_setTime 59 = .ok (.ireturn, 1) := by decide +kernel
theorem e_X8_setTime_28 {X : gk_X} {F : Nat} : ∀ (n : Nat) (l0 : Nat) (l2 : Int32) (S : gk_S) (r : (Int32 × gk_S)), f_X8_setTime_28 F n l0 l2 S = some r → EvW X m_X8_setTime 3 0 0 28 [some (.ref l0), none, some (.int l2)] [] S (qRI r) := by
  intro n
  induction n with
  | zero => intro l0 l2 S r h0; rw [f_X8_setTime_28] at h0; cases h0
  | succ n ih =>
    intro l0 l2 S r h0; rw [f_X8_setTime_28] at h0
    refine ev_iload_n (pc := 28) (i := 2) rfl rfl dX8_setTime_28 ?_
    refine ev_if_lt (pc := 29) (tgt := 58) (by decide) dX8_setTime_29 (fun c16 => ?_) (fun c16 => ?_)
    · replace h0 := qi_t h0 c16
      refine ev_iconst (pc := 58) (v := 1) (by decide) dX8_setTime_58 ?_
      exact ev_ireturn (pc := 59) rfl rfl (qRI_eq h0) dX8_setTime_59
    · replace h0 := qi_f h0 c16
      refine ev_aload_n (pc := 32) (i := 0) rfl rfl rfl dX8_setTime_32 ?_
      refine ev_iload_n (pc := 33) (i := 2) rfl rfl dX8_setTime_33 ?_
      obtain ⟨g18, h19⟩ := qk_el h0; clear h0
      obtain ⟨x20, S21, e22, h23⟩ := qc_el h19; clear h19
      refine xv_callV (pc := 34) (st := []) (as := [.int l2]) (v := (some (.ref x20))) (S' := S21) ok_X8_at (e_X8_at e22) (isb_el g18) (by decide) rfl (Nat.le_of_ble_eq_true rfl) rfl gw_358 dX8_setTime_34 ?_
      obtain ⟨g24, h25⟩ := qk_el h23; clear h23
      obtain ⟨x26, e27, h28⟩ := qv_el h25; clear h25
      refine xv_getIv (pc := 37) fn_8 (isb_el g24) e27 gw_217 dX8_setTime_37 ?_
      refine ev_aload_n (pc := 40) (i := 0) rfl rfl rfl dX8_setTime_40 ?_
      obtain ⟨g29, h30⟩ := qk_el h28; clear h28
      obtain ⟨x31, e32, h33⟩ := qv_el h30; clear h30
      refine xv_getIv (pc := 41) fn_603 (isb_el g29) e32 gw_242 dX8_setTime_41 ?_
      refine ev_ic_gt (pc := 44) (tgt := 52) (by decide) dX8_setTime_44 (fun c34 => ?_) (fun c34 => ?_)
      · replace h33 := qi_t h33 c34
        refine ev_iinc (pc := 52) (L' := [some (.ref l0), none, some (.int (l2 + (-1)))]) (i := 2) (v := (l2 + (-1))) rfl (congrArg (l2 + ·) (by decide)) (by decide) rfl rfl dX8_setTime_52 ?_
        refine ev_goto (pc := 55) (tgt := 28) (by decide) dX8_setTime_55 ?_
        exact (ev_weak (qL_s (qL_n (qL_s qL_nil))) (ih _ _ _ _ h33))
      · replace h33 := qi_f h33 c34
        refine ev_aload_n (pc := 47) (i := 0) rfl rfl rfl dX8_setTime_47 ?_
        refine ev_iload_n (pc := 48) (i := 2) rfl rfl dX8_setTime_48 ?_
        obtain ⟨x36, S37, e38, h39⟩ := qc_el h33; clear h33
        refine xv_callV (pc := 49) (st := []) (as := [.int l2]) (v := none) (S' := S37) ok_X8_remove (e_X8_remove e38) (isb_el g29) (by decide) rfl (Nat.le_of_ble_eq_true rfl) rfl gw_362 dX8_setTime_49 ?_
        refine ev_iinc (pc := 52) (L' := [some (.ref l0), none, some (.int (l2 + (-1)))]) (i := 2) (v := (l2 + (-1))) rfl (congrArg (l2 + ·) (by decide)) (by decide) rfl rfl dX8_setTime_52 ?_
        refine ev_goto (pc := 55) (tgt := 28) (by decide) dX8_setTime_55 ?_
        exact (ev_weak (qL_s (qL_n (qL_s qL_nil))) (ih _ _ _ _ h39))
theorem e_X8_setTime {X : gk_X} {F : Nat} {S : gk_S} {a : Nat} {p0 : Int32} {r : (Int32 × gk_S)} (h0 : f_X8_setTime F S a p0 = some r) : EvM X m_X8_setTime 3 0 0 [.ref a, .int p0] S (qRI r) := by
  unfold f_X8_setTime at h0
  refine ev_method (by decide +kernel) rfl rfl (Nat.le_of_ble_eq_true rfl) ?_
  show EvW X m_X8_setTime 3 0 0 0 [some (.ref a), some (.int p0), none] [] S _
  refine ev_iload_n (pc := 0) (i := 1) rfl rfl dX8_setTime_0 ?_
  refine ev_aload_n (pc := 1) (i := 0) rfl rfl rfl dX8_setTime_1 ?_
  obtain ⟨g1, h2⟩ := qk_el h0; clear h0
  obtain ⟨x3, e4, h5⟩ := qv_el h2; clear h2
  refine xv_getIv (pc := 2) fn_603 (isb_el g1) e4 gw_242 dX8_setTime_2 ?_
  refine ev_ic_lt (pc := 5) (tgt := 14) (by decide) dX8_setTime_5 (fun c6 => ?_) (fun c6 => ?_)
  · replace h5 := qi_t h5 c6
    refine ev_iconst (pc := 14) (v := 0) (by decide) dX8_setTime_14 ?_
    exact ev_ireturn (pc := 15) rfl rfl (qRI_eq h5) dX8_setTime_15
  · replace h5 := qi_f h5 c6
    refine ev_iload_n (pc := 8) (i := 1) rfl rfl dX8_setTime_8 ?_
    refine ev_ldc (pc := 9) (v := 1000000000) gw_357 dX8_setTime_9 ?_
    refine ev_ic_le (pc := 11) (tgt := 16) (by decide) dX8_setTime_11 (fun c8 => ?_) (fun c8 => ?_)
    · replace h5 := qi_t h5 c8
      refine ev_aload_n (pc := 16) (i := 0) rfl rfl rfl dX8_setTime_16 ?_
      refine ev_iload_n (pc := 17) (i := 1) rfl rfl dX8_setTime_17 ?_
      obtain ⟨S10, e11, h12⟩ := qv_el h5; clear h5
      refine yv_putI (pc := 18) fn_603 ⟨rfl, rfl⟩ (isb_el g1) e11 gw_242 dX8_setTime_18 ?_
      refine ev_aload_n (pc := 21) (i := 0) rfl rfl rfl dX8_setTime_21 ?_
      obtain ⟨x13, e14, h15⟩ := qv_el h12; clear h12
      refine xv_getIv (pc := 22) fn_601 (is_sI (isb_el g1) e11) e14 gw_238 dX8_setTime_22 ?_
      refine ev_iconst (pc := 25) (v := 1) (by decide) dX8_setTime_25 ?_
      refine ev_isub (pc := 26)  dX8_setTime_26 ?_
      refine ev_istore_n (pc := 27) (L' := [some (.ref a), some (.int p0), some (.int (x13 - 1))]) (i := 2) rfl (by decide) rfl rfl dX8_setTime_27 ?_
      exact ev_weak (qL_s (qL_n (qL_s qL_nil))) (e_X8_setTime_28 F _ _ _ _ h15)
    · replace h5 := qi_f h5 c8
      refine ev_iconst (pc := 14) (v := 0) (by decide) dX8_setTime_14 ?_
      exact ev_ireturn (pc := 15) rfl rfl (qRI_eq h5) dX8_setTime_15
theorem dX11_now_0 : decode cX11_now 0 = .ok (.aload_n 0, 1) := by decide +kernel
theorem dX11_now_1 : decode cX11_now 1 = .ok (.getfield 51, 3) := by decide +kernel
theorem dX11_now_4 : decode cX11_now 4 = .ok (.iload_n 1, 1) := by decide +kernel
theorem dX11_now_5 : decode cX11_now 5 = .ok (.invokevirtual 176, 3) := by decide +kernel
theorem dX11_now_8 : decode cX11_now 8 = .ok (.ireturn, 1) := by decide +kernel
theorem e_X11_now {X : gk_X} {F : Nat} {S : gk_S} {a : Nat} {p0 : Int32} {r : (Int32 × gk_S)} (h0 : f_X11_now F S a p0 = some r) : EvM X m_X11_now 4 0 0 [.ref a, .int p0] S (qRI r) := by
  unfold f_X11_now at h0
  refine ev_method (by decide +kernel) rfl rfl (Nat.le_of_ble_eq_true rfl) ?_
  show EvW X m_X11_now 4 0 0 0 [some (.ref a), some (.int p0)] [] S _
  refine ev_aload_n (pc := 0) (i := 0) rfl rfl rfl dX11_now_0 ?_
  obtain ⟨g1, h2⟩ := qk_el h0; clear h0
  obtain ⟨b3, e4, h5⟩ := qP_el h2; clear h2
  refine xv_getP (pc := 1) fn_805 (isb_el g1) e4 gw_287 dX11_now_1 ?_
  refine ev_iload_n (pc := 4) (i := 1) rfl rfl dX11_now_4 ?_
  obtain ⟨g6, h7⟩ := qk_el h5; clear h5
  obtain ⟨x8, S9, e10, h11⟩ := qc_el h7; clear h7
  refine xv_callV (pc := 5) (st := []) (as := [.int p0]) (v := (some (.int x8))) (S' := S9) ok_X8_setTime (e_X8_setTime e10) (isb_el g6) (by decide) rfl (Nat.le_of_ble_eq_true rfl) rfl gw_353 dX11_now_5 ?_
  obtain ⟨g12, h13⟩ := qk_el h11; clear h11
  exact ev_ireturn (pc := 8) rfl (zb_nar g12) (qRI_eq h13) dX11_now_8
theorem dX12_goes_0 : decode cX12_goes 0 = .ok (.aload_n 0, 1) := by decide +kernel
theorem dX12_goes_1 : decode cX12_goes 1 = .ok (.dup, 1) := by decide +kernel
theorem dX12_goes_2 : decode cX12_goes 2 = .ok (.getfield 340, 3) := by decide +kernel
theorem dX12_goes_5 : decode cX12_goes 5 = .ok (.iconst 1, 1) := by decide +kernel
theorem dX12_goes_6 : decode cX12_goes 6 = .ok (.isub, 1) := by decide +kernel
theorem dX12_goes_7 : decode cX12_goes 7 = .ok (.putfield 340, 3) := by decide +kernel
theorem dX12_goes_10 : decode cX12_goes 10 = .ok (.bipush 9, 2) := by decide +kernel
theorem dX12_goes_12 : decode cX12_goes 12 = .ok (.iload_n 1, 1) := by decide +kernel
theorem dX12_goes_13 : decode cX12_goes 13 = .ok (.imul, 1) := by decide +kernel
theorem dX12_goes_14 : decode cX12_goes 14 = .ok (.istore_n 2, 1) := by decide +kernel
theorem dX12_goes_15 : decode cX12_goes 15 = .ok (.iload_n 2, 1) := by decide +kernel
theorem dX12_goes_16 : decode cX12_goes 16 = .ok (.bipush 9, 2) := by decide +kernel
theorem dX12_goes_18 : decode cX12_goes 18 = .ok (.aload_n 0, 1) := by decide +kernel
theorem dX12_goes_19 : decode cX12_goes 19 = .ok (.getfield 340, 3) := by decide +kernel
theorem dX12_goes_22 : decode cX12_goes 22 = .ok (.imul, 1) := by decide +kernel
theorem dX12_goes_23 : decode cX12_goes 23 = .ok (.if_icmp .ge 24, 3) := by decide +kernel
theorem dX12_goes_26 : decode cX12_goes 26 = .ok (.aload_n 0, 1) := by decide +kernel
theorem dX12_goes_27 : decode cX12_goes 27 = .ok (.getfield 87, 3) := by decide +kernel
theorem dX12_goes_30 : decode cX12_goes 30 = .ok (.iload_n 2, 1) := by decide +kernel
theorem dX12_goes_31 : decode cX12_goes 31 = .ok (.aload_n 0, 1) := by decide +kernel
theorem dX12_goes_32 : decode cX12_goes 32 = .ok (.getfield 87, 3) := by decide +kernel
theorem dX12_goes_35 : decode cX12_goes 35 = .ok (.iload_n 2, 1) := by decide +kernel
theorem dX12_goes_36 : decode cX12_goes 36 = .ok (.bipush 9, 2) := by decide +kernel
theorem dX12_goes_38 : decode cX12_goes 38 = .ok (.iadd, 1) := by decide +kernel
theorem dX12_goes_39 : decode cX12_goes 39 = .ok (.iaload, 1) := by decide +kernel
theorem dX12_goes_40 : decode cX12_goes 40 = .ok (.iastore, 1) := by decide +kernel
theorem dX12_goes_41 : decode cX12_goes 41 = .ok (.iinc 2 1, 3) := by decide +kernel
theorem dX12_goes_44 : decode cX12_goes 44 = .ok (.goto (-29), 3) := by decide +kernel
theorem dX12_goes_47 : decode cX12_goes 47 = .ok (.return_, 1) := by decide +kernel
theorem e_X12_goes_15 {X : gk_X} {F : Nat} : ∀ (n : Nat) (l0 : Nat) (l2 : Int32) (S : gk_S) (r : (Unit × gk_S)), f_X12_goes_15 F n l0 l2 S = some r → EvW X m_X12_goes 1 0 0 15 [some (.ref l0), none, some (.int l2)] [] S (qRU r) := by
  intro n
  induction n with
  | zero => intro l0 l2 S r h0; rw [f_X12_goes_15] at h0; cases h0
  | succ n ih =>
    intro l0 l2 S r h0; rw [f_X12_goes_15] at h0
    refine ev_iload_n (pc := 15) (i := 2) rfl rfl dX12_goes_15 ?_
    refine ev_bipush (pc := 16) (v := 9) (by decide) dX12_goes_16 ?_
    refine ev_aload_n (pc := 18) (i := 0) rfl rfl rfl dX12_goes_18 ?_
    obtain ⟨g9, h10⟩ := qk_el h0; clear h0
    obtain ⟨x11, e12, h13⟩ := qv_el h10; clear h10
    refine xv_getIv (pc := 19) fn_932 (isb_el g9) e12 gw_1172 dX12_goes_19 ?_
    refine ev_imul (pc := 22)  dX12_goes_22 ?_
    refine ev_ic_ge (pc := 23) (tgt := 47) (by decide) dX12_goes_23 (fun c14 => ?_) (fun c14 => ?_)
    · replace h13 := qi_t h13 c14
      exact ev_return (pc := 47) rfl (qRU_eq h13) dX12_goes_47
    · replace h13 := qi_f h13 c14
      refine ev_aload_n (pc := 26) (i := 0) rfl rfl rfl dX12_goes_26 ?_
      obtain ⟨b16, e17, h18⟩ := qP_el h13; clear h13
      refine xv_getP (pc := 27) fn_931 (isb_el g9) e17 gw_1171 dX12_goes_27 ?_
      refine ev_iload_n (pc := 30) (i := 2) rfl rfl dX12_goes_30 ?_
      refine ev_aload_n (pc := 31) (i := 0) rfl rfl rfl dX12_goes_31 ?_
      obtain ⟨b19, e20, h21⟩ := qP_el h18; clear h18
      refine xv_getP (pc := 32) fn_931 (isb_el g9) e20 gw_1171 dX12_goes_32 ?_
      refine ev_iload_n (pc := 35) (i := 2) rfl rfl dX12_goes_35 ?_
      refine ev_bipush (pc := 36) (v := 9) (by decide) dX12_goes_36 ?_
      refine ev_iadd (pc := 38)  dX12_goes_38 ?_
      obtain ⟨g22, h23⟩ := qk_el h21; clear h21
      obtain ⟨g24, h25⟩ := qk_el h23; clear h23
      obtain ⟨x26, e27, h28⟩ := qv_el h25; clear h25
      refine yv_iald (pc := 39) (isb_el g22) (inb_el g24) e27 dX12_goes_39 ?_
      obtain ⟨g29, h30⟩ := qk_el h28; clear h28
      obtain ⟨g31, h32⟩ := qk_el h30; clear h30
      obtain ⟨S33, e34, h35⟩ := qv_el h32; clear h32
      refine yv_iast (pc := 40) (isb_el g29) (inb_el g31) e34 dX12_goes_40 ?_
      refine ev_iinc (pc := 41) (L' := [some (.ref l0), none, some (.int (l2 + 1))]) (i := 2) (v := (l2 + 1)) rfl rfl (by decide) rfl rfl dX12_goes_41 ?_
      refine ev_goto (pc := 44) (tgt := 15) (by decide) dX12_goes_44 ?_
      exact (ev_weak (qL_s (qL_n (qL_s qL_nil))) (ih _ _ _ _ h35))
theorem e_X12_goes {X : gk_X} {F : Nat} {S : gk_S} {a : Nat} {p0 : Int32} {r : (Unit × gk_S)} (h0 : f_X12_goes F S a p0 = some r) : EvM X m_X12_goes 1 0 0 [.ref a, .int p0] S (qRU r) := by
  unfold f_X12_goes at h0
  refine ev_method (by decide +kernel) rfl rfl (Nat.le_of_ble_eq_true rfl) ?_
  show EvW X m_X12_goes 1 0 0 0 [some (.ref a), some (.int p0), none] [] S _
  refine ev_aload_n (pc := 0) (i := 0) rfl rfl rfl dX12_goes_0 ?_
  refine ev_dup (pc := 1) (.inr rfl) dX12_goes_1 ?_
  obtain ⟨g1, h2⟩ := qk_el h0; clear h0
  obtain ⟨x3, e4, h5⟩ := qv_el h2; clear h2
  refine xv_getIv (pc := 2) fn_932 (isb_el g1) e4 gw_1172 dX12_goes_2 ?_
  refine ev_iconst (pc := 5) (v := 1) (by decide) dX12_goes_5 ?_
  refine ev_isub (pc := 6)  dX12_goes_6 ?_
  obtain ⟨S6, e7, h8⟩ := qv_el h5; clear h5
  refine yv_putI (pc := 7) fn_932 ⟨rfl, rfl⟩ (isb_el g1) e7 gw_1172 dX12_goes_7 ?_
  refine ev_bipush (pc := 10) (v := 9) (by decide) dX12_goes_10 ?_
  refine ev_iload_n (pc := 12) (i := 1) rfl rfl dX12_goes_12 ?_
  refine ev_imul (pc := 13)  dX12_goes_13 ?_
  refine ev_istore_n (pc := 14) (L' := [some (.ref a), some (.int p0), some (.int (9 * p0))]) (i := 2) rfl (by decide) rfl rfl dX12_goes_14 ?_
  exact ev_weak (qL_s (qL_n (qL_s qL_nil))) (e_X12_goes_15 F _ _ _ _ h8)
theorem dX12_now_0 : decode cX12_now 0 = .ok (.aload_n 0, 1) := by decide +kernel
theorem dX12_now_1 : decode cX12_now 1 = .ok (.iconst 0, 1) := by decide +kernel
theorem dX12_now_2 : decode cX12_now 2 = .ok (.putfield 1, 3) := by decide +kernel
theorem dX12_now_5 : decode cX12_now 5 = .ok (.iload_n 1, 1) := by decide +kernel
theorem dX12_now_6 : decode cX12_now 6 = .ok (.aload_n 0, 1) := by decide +kernel
theorem dX12_now_7 : decode cX12_now 7 = .ok (.getfield 343, 3) := by decide +kernel
theorem dX12_now_10 : decode cX12_now 10 = .ok (.if_icmp .lt 10, 3) := by decide +kernel
theorem dX12_now_13 : decode cX12_now 13 = .ok (.iload_n 1, 1) := by decide +kernel
theorem dX12_now_14 : decode cX12_now 14 = .ok (.ldc_w 346, 3) := by decide +kernel
theorem dX12_now_17 : decode cX12_now 17 = .ok (.if_icmp .le 5, 3) := by decide +kernel
theorem dX12_now_20 : decode cX12_now 20 = .ok (.iconst 0, 1) := by decide +kernel
theorem dX12_now_21 : decode cX12_now 21 = .ok (.ireturn, 1) := by decide +kernel
theorem dX12_now_22 : decode cX12_now 22 = .ok (.aload_n 0, 1) := by decide +kernel
theorem dX12_now_23 : decode cX12_now 23 = .ok (.iload_n 1, 1) := by decide +kernel
theorem dX12_now_24 : decode cX12_now 24 = .ok (.putfield 343, 3) := by decide +kernel
theorem dX12_now_27 : decode cX12_now 27 = .ok (.aload_n 0, 1) := by decide +kernel
theorem dX12_now_28 : decode cX12_now 28 = .ok (.getfield 340, 3) := by decide +kernel
theorem dX12_now_31 : decode cX12_now 31 = .ok (.iconst 1, 1) := by decide +kernel
theorem dX12_now_32 : decode cX12_now 32 = .ok (.isub, 1) := by decide +kernel
theorem dX12_now_33 : decode cX12_now 33 = .ok (.istore_n 2, 1) := by decide +kernel
theorem dX12_now_34 : decode cX12_now 34 = .ok (.iload_n 2, 1) := by decide +kernel
theorem dX12_now_35 : decode cX12_now 35 = .ok (.ifCond .lt 33, 3) := by decide +kernel
theorem dX12_now_38 : decode cX12_now 38 = .ok (.aload_n 0, 1) := by decide +kernel
theorem dX12_now_39 : decode cX12_now 39 = .ok (.getfield 87, 3) := by decide +kernel
theorem dX12_now_42 : decode cX12_now 42 = .ok (.bipush 9, 2) := by decide +kernel
theorem dX12_now_44 : decode cX12_now 44 = .ok (.iload_n 2, 1) := by decide +kernel
theorem dX12_now_45 : decode cX12_now 45 = .ok (.imul, 1) := by decide +kernel
theorem dX12_now_46 : decode cX12_now 46 = .ok (.bipush 8, 2) := by decide +kernel
theorem dX12_now_48 : decode cX12_now 48 = .ok (.iadd, 1) := by decide +kernel
theorem dX12_now_49 : decode cX12_now 49 = .ok (.iaload, 1) := by decide +kernel
theorem dX12_now_50 : decode cX12_now 50 = .ok (.aload_n 0, 1) := by decide +kernel
theorem dX12_now_51 : decode cX12_now 51 = .ok (.getfield 343, 3) := by decide +kernel
theorem dX12_now_54 : decode cX12_now 54 = .ok (.if_icmp .gt 8, 3) := by decide +kernel
theorem dX12_now_57 : decode cX12_now 57 = .ok (.aload_n 0, 1) := by decide +kernel
theorem dX12_now_58 : decode cX12_now 58 = .ok (.iload_n 2, 1) := by decide +kernel
theorem dX12_now_59 : decode cX12_now 59 = .ok (.invokevirtual 347, 3) := by decide +kernel
theorem dX12_now_62 : decode cX12_now 62 = .ok (.iinc 2 (-1), 3) := by decide +kernel
theorem dX12_now_65 : decode cX12_now 65 = .ok (.goto (-31), 3) := by decide +kernel
theorem dX12_now_68 : decode cX12_now 68 = .ok (.iconst 1, 1) := by decide +kernel
theorem dX12_now_69 : decode cX12_now 69 = .ok (.ireturn, 1) := by decide +kernel
theorem e_X12_now_34 {X : gk_X} {F : Nat} : ∀ (n : Nat) (l0 : Nat) (l2 : Int32) (S : gk_S) (r : (Int32 × gk_S)), f_X12_now_34 F n l0 l2 S = some r → EvW X m_X12_now 2 0 0 34 [some (.ref l0), none, some (.int l2)] [] S (qRI r) := by
  intro n
  induction n with
  | zero => intro l0 l2 S r h0; rw [f_X12_now_34] at h0; cases h0
  | succ n ih =>
    intro l0 l2 S r h0; rw [f_X12_now_34] at h0
    refine ev_iload_n (pc := 34) (i := 2) rfl rfl dX12_now_34 ?_
    refine ev_if_lt (pc := 35) (tgt := 68) (by decide) dX12_now_35 (fun c19 => ?_) (fun c19 => ?_)
    · replace h0 := qi_t h0 c19
      refine ev_iconst (pc := 68) (v := 1) (by decide) dX12_now_68 ?_
      exact ev_ireturn (pc := 69) rfl rfl (qRI_eq h0) dX12_now_69
    · replace h0 := qi_f h0 c19
      refine ev_aload_n (pc := 38) (i := 0) rfl rfl rfl dX12_now_38 ?_
      obtain ⟨g21, h22⟩ := qk_el h0; clear h0
      obtain ⟨b23, e24, h25⟩ := qP_el h22; clear h22
      refine xv_getP (pc := 39) fn_931 (isb_el g21) e24 gw_1171 dX12_now_39 ?_
      refine ev_bipush (pc := 42) (v := 9) (by decide) dX12_now_42 ?_
      refine ev_iload_n (pc := 44) (i := 2) rfl rfl dX12_now_44 ?_
      refine ev_imul (pc := 45)  dX12_now_45 ?_
      refine ev_bipush (pc := 46) (v := 8) (by decide) dX12_now_46 ?_
      refine ev_iadd (pc := 48)  dX12_now_48 ?_
      obtain ⟨g26, h27⟩ := qk_el h25; clear h25
      obtain ⟨g28, h29⟩ := qk_el h27; clear h27
      obtain ⟨x30, e31, h32⟩ := qv_el h29; clear h29
      refine yv_iald (pc := 49) (isb_el g26) (inb_el g28) e31 dX12_now_49 ?_
      refine ev_aload_n (pc := 50) (i := 0) rfl rfl rfl dX12_now_50 ?_
      obtain ⟨x33, e34, h35⟩ := qv_el h32; clear h32
      refine xv_getIv (pc := 51) fn_934 (isb_el g21) e34 gw_1174 dX12_now_51 ?_
      refine ev_ic_gt (pc := 54) (tgt := 62) (by decide) dX12_now_54 (fun c36 => ?_) (fun c36 => ?_)
      · replace h35 := qi_t h35 c36
        refine ev_iinc (pc := 62) (L' := [some (.ref l0), none, some (.int (l2 + (-1)))]) (i := 2) (v := (l2 + (-1))) rfl (congrArg (l2 + ·) (by decide)) (by decide) rfl rfl dX12_now_62 ?_
        refine ev_goto (pc := 65) (tgt := 34) (by decide) dX12_now_65 ?_
        exact (ev_weak (qL_s (qL_n (qL_s qL_nil))) (ih _ _ _ _ h35))
      · replace h35 := qi_f h35 c36
        refine ev_aload_n (pc := 57) (i := 0) rfl rfl rfl dX12_now_57 ?_
        refine ev_iload_n (pc := 58) (i := 2) rfl rfl dX12_now_58 ?_
        obtain ⟨x38, S39, e40, h41⟩ := qc_el h35; clear h35
        refine xv_callV (pc := 59) (st := []) (as := [.int l2]) (v := none) (S' := S39) ok_X12_goes (e_X12_goes e40) (isb_el g21) (by decide) rfl (Nat.le_of_ble_eq_true rfl) rfl gw_1536 dX12_now_59 ?_
        refine ev_iinc (pc := 62) (L' := [some (.ref l0), none, some (.int (l2 + (-1)))]) (i := 2) (v := (l2 + (-1))) rfl (congrArg (l2 + ·) (by decide)) (by decide) rfl rfl dX12_now_62 ?_
        refine ev_goto (pc := 65) (tgt := 34) (by decide) dX12_now_65 ?_
        exact (ev_weak (qL_s (qL_n (qL_s qL_nil))) (ih _ _ _ _ h41))
theorem e_X12_now {X : gk_X} {F : Nat} {S : gk_S} {a : Nat} {p0 : Int32} {r : (Int32 × gk_S)} (h0 : f_X12_now F S a p0 = some r) : EvM X m_X12_now 2 0 0 [.ref a, .int p0] S (qRI r) := by
  unfold f_X12_now at h0
  refine ev_method (by decide +kernel) rfl rfl (Nat.le_of_ble_eq_true rfl) ?_
  show EvW X m_X12_now 2 0 0 0 [some (.ref a), some (.int p0), none] [] S _
  refine ev_aload_n (pc := 0) (i := 0) rfl rfl rfl dX12_now_0 ?_
  refine ev_iconst (pc := 1) (v := 0) (by decide) dX12_now_1 ?_
  obtain ⟨g1, h2⟩ := qk_el h0; clear h0
  obtain ⟨S3, e4, h5⟩ := qv_el h2; clear h2
  refine yv_putI (pc := 2) fn_900 ⟨rfl, rfl⟩ (isb_el g1) e4 gw_1140 dX12_now_2 ?_
  refine ev_iload_n (pc := 5) (i := 1) rfl rfl dX12_now_5 ?_
  refine ev_aload_n (pc := 6) (i := 0) rfl rfl rfl dX12_now_6 ?_
  obtain ⟨x6, e7, h8⟩ := qv_el h5; clear h5
  refine xv_getIv (pc := 7) fn_934 (is_sI (isb_el g1) e4) e7 gw_1174 dX12_now_7 ?_
  refine ev_ic_lt (pc := 10) (tgt := 20) (by decide) dX12_now_10 (fun c9 => ?_) (fun c9 => ?_)
  · replace h8 := qi_t h8 c9
    refine ev_iconst (pc := 20) (v := 0) (by decide) dX12_now_20 ?_
    exact ev_ireturn (pc := 21) rfl rfl (qRI_eq h8) dX12_now_21
  · replace h8 := qi_f h8 c9
    refine ev_iload_n (pc := 13) (i := 1) rfl rfl dX12_now_13 ?_
    refine ev_ldcw (pc := 14) (v := 1000000000) gw_1535 dX12_now_14 ?_
    refine ev_ic_le (pc := 17) (tgt := 22) (by decide) dX12_now_17 (fun c11 => ?_) (fun c11 => ?_)
    · replace h8 := qi_t h8 c11
      refine ev_aload_n (pc := 22) (i := 0) rfl rfl rfl dX12_now_22 ?_
      refine ev_iload_n (pc := 23) (i := 1) rfl rfl dX12_now_23 ?_
      obtain ⟨S13, e14, h15⟩ := qv_el h8; clear h8
      refine yv_putI (pc := 24) fn_934 ⟨rfl, rfl⟩ (is_sI (isb_el g1) e4) e14 gw_1174 dX12_now_24 ?_
      refine ev_aload_n (pc := 27) (i := 0) rfl rfl rfl dX12_now_27 ?_
      obtain ⟨x16, e17, h18⟩ := qv_el h15; clear h15
      refine xv_getIv (pc := 28) fn_932 (is_sI (is_sI (isb_el g1) e4) e14) e17 gw_1172 dX12_now_28 ?_
      refine ev_iconst (pc := 31) (v := 1) (by decide) dX12_now_31 ?_
      refine ev_isub (pc := 32)  dX12_now_32 ?_
      refine ev_istore_n (pc := 33) (L' := [some (.ref a), some (.int p0), some (.int (x16 - 1))]) (i := 2) rfl (by decide) rfl rfl dX12_now_33 ?_
      exact ev_weak (qL_s (qL_n (qL_s qL_nil))) (e_X12_now_34 F _ _ _ _ h18)
    · replace h8 := qi_f h8 c11
      refine ev_iconst (pc := 20) (v := 0) (by decide) dX12_now_20 ?_
      exact ev_ireturn (pc := 21) rfl rfl (qRI_eq h8) dX12_now_21
theorem dX8_setRoom_0 : decode cX8_setRoom 0 = .ok (.iload_n 1, 1) := by decide +kernel
theorem dX8_setRoom_1 : decode cX8_setRoom 1 = .ok (.iconst 1, 1) := by decide +kernel
theorem dX8_setRoom_2 : decode cX8_setRoom 2 = .ok (.if_icmp .lt 9, 3) := by decide +kernel
theorem dX8_setRoom_5 : decode cX8_setRoom 5 = .ok (.iload_n 1, 1) := by decide +kernel
theorem dX8_setRoom_6 : decode cX8_setRoom 6 = .ok (.bipush 64, 2) := by decide +kernel
theorem dX8_setRoom_8 : decode cX8_setRoom 8 = .ok (.if_icmp .le 5, 3) := by decide +kernel
theorem dX8_setRoom_11 : decode cX8_setRoom 11 = .ok (.iconst 0, 1) := by decide +kernel
theorem dX8_setRoom_12 : decode cX8_setRoom 12 = .ok (.ireturn, 1) := by decide +kernel
theorem dX8_setRoom_13 : decode cX8_setRoom 13 = .ok (.aload_n 0, 1) := by decide +kernel
theorem dX8_setRoom_14 : decode cX8_setRoom 14 = .ok (.iload_n 1, 1) := by decide +kernel
theorem dX8_setRoom_15 : decode cX8_setRoom 15 = .ok (.putfield 22, 3) := by decide +kernel
theorem dX8_setRoom_18 : decode cX8_setRoom 18 = .ok (.aload_n 0, 1) := by decide +kernel
theorem dX8_setRoom_19 : decode cX8_setRoom 19 = .ok (.iconst 0, 1) := by decide +kernel
theorem dX8_setRoom_20 : decode cX8_setRoom 20 = .ok (.putfield 18, 3) := by decide +kernel
theorem dX8_setRoom_23 : decode cX8_setRoom 23 = .ok (.iconst 1, 1) := by decide +kernel
theorem dX8_setRoom_24 : decode cX8_setRoom 24 = .ok (.ireturn, 1) := by decide +kernel
theorem e_X8_setRoom {X : gk_X} {F : Nat} {S : gk_S} {a : Nat} {p0 : Int32} {r : (Int32 × gk_S)} (h0 : f_X8_setRoom F S a p0 = some r) : EvM X m_X8_setRoom 1 0 0 [.ref a, .int p0] S (qRI r) := by
  unfold f_X8_setRoom at h0
  refine ev_method (by decide +kernel) rfl rfl (Nat.le_of_ble_eq_true rfl) ?_
  show EvW X m_X8_setRoom 1 0 0 0 [some (.ref a), some (.int p0)] [] S _
  refine ev_iload_n (pc := 0) (i := 1) rfl rfl dX8_setRoom_0 ?_
  refine ev_iconst (pc := 1) (v := 1) (by decide) dX8_setRoom_1 ?_
  refine ev_ic_lt (pc := 2) (tgt := 11) (by decide) dX8_setRoom_2 (fun c1 => ?_) (fun c1 => ?_)
  · replace h0 := qi_t h0 c1
    refine ev_iconst (pc := 11) (v := 0) (by decide) dX8_setRoom_11 ?_
    exact ev_ireturn (pc := 12) rfl rfl (qRI_eq h0) dX8_setRoom_12
  · replace h0 := qi_f h0 c1
    refine ev_iload_n (pc := 5) (i := 1) rfl rfl dX8_setRoom_5 ?_
    refine ev_bipush (pc := 6) (v := 64) (by decide) dX8_setRoom_6 ?_
    refine ev_ic_le (pc := 8) (tgt := 13) (by decide) dX8_setRoom_8 (fun c3 => ?_) (fun c3 => ?_)
    · replace h0 := qi_t h0 c3
      refine ev_aload_n (pc := 13) (i := 0) rfl rfl rfl dX8_setRoom_13 ?_
      refine ev_iload_n (pc := 14) (i := 1) rfl rfl dX8_setRoom_14 ?_
      obtain ⟨g5, h6⟩ := qk_el h0; clear h0
      obtain ⟨S7, e8, h9⟩ := qv_el h6; clear h6
      refine yv_putI (pc := 15) fn_602 ⟨rfl, rfl⟩ (isb_el g5) e8 gw_240 dX8_setRoom_15 ?_
      refine ev_aload_n (pc := 18) (i := 0) rfl rfl rfl dX8_setRoom_18 ?_
      refine ev_iconst (pc := 19) (v := 0) (by decide) dX8_setRoom_19 ?_
      obtain ⟨S10, e11, h12⟩ := qv_el h9; clear h9
      refine yv_putI (pc := 20) fn_601 ⟨rfl, rfl⟩ (is_sI (isb_el g5) e8) e11 gw_238 dX8_setRoom_20 ?_
      refine ev_iconst (pc := 23) (v := 1) (by decide) dX8_setRoom_23 ?_
      exact ev_ireturn (pc := 24) rfl rfl (qRI_eq h12) dX8_setRoom_24
    · replace h0 := qi_f h0 c3
      refine ev_iconst (pc := 11) (v := 0) (by decide) dX8_setRoom_11 ?_
      exact ev_ireturn (pc := 12) rfl rfl (qRI_eq h0) dX8_setRoom_12
theorem dX11_room_0 : decode cX11_room 0 = .ok (.aload_n 0, 1) := by decide +kernel
theorem dX11_room_1 : decode cX11_room 1 = .ok (.getfield 51, 3) := by decide +kernel
theorem dX11_room_4 : decode cX11_room 4 = .ok (.iload_n 1, 1) := by decide +kernel
theorem dX11_room_5 : decode cX11_room 5 = .ok (.invokevirtual 180, 3) := by decide +kernel
theorem dX11_room_8 : decode cX11_room 8 = .ok (.ireturn, 1) := by decide +kernel
theorem e_X11_room {X : gk_X} {F : Nat} {S : gk_S} {a : Nat} {p0 : Int32} {r : (Int32 × gk_S)} (h0 : f_X11_room F S a p0 = some r) : EvM X m_X11_room 2 0 0 [.ref a, .int p0] S (qRI r) := by
  unfold f_X11_room at h0
  refine ev_method (by decide +kernel) rfl rfl (Nat.le_of_ble_eq_true rfl) ?_
  show EvW X m_X11_room 2 0 0 0 [some (.ref a), some (.int p0)] [] S _
  refine ev_aload_n (pc := 0) (i := 0) rfl rfl rfl dX11_room_0 ?_
  obtain ⟨g1, h2⟩ := qk_el h0; clear h0
  obtain ⟨b3, e4, h5⟩ := qP_el h2; clear h2
  refine xv_getP (pc := 1) fn_805 (isb_el g1) e4 gw_287 dX11_room_1 ?_
  refine ev_iload_n (pc := 4) (i := 1) rfl rfl dX11_room_4 ?_
  obtain ⟨g6, h7⟩ := qk_el h5; clear h5
  obtain ⟨x8, S9, e10, h11⟩ := qc_el h7; clear h7
  refine xv_callV (pc := 5) (st := []) (as := [.int p0]) (v := (some (.int x8))) (S' := S9) ok_X8_setRoom (e_X8_setRoom e10) (isb_el g6) (by decide) rfl (Nat.le_of_ble_eq_true rfl) rfl gw_370 dX11_room_5 ?_
  obtain ⟨g12, h13⟩ := qk_el h11; clear h11
  exact ev_ireturn (pc := 8) rfl (zb_nar g12) (qRI_eq h13) dX11_room_8
theorem dX12_room_0 : decode cX12_room 0 = .ok (.aload_n 0, 1) := by decide +kernel
theorem dX12_room_1 : decode cX12_room 1 = .ok (.iconst 0, 1) := by decide +kernel
theorem dX12_room_2 : decode cX12_room 2 = .ok (.putfield 1, 3) := by decide +kernel
theorem dX12_room_5 : decode cX12_room 5 = .ok (.iload_n 1, 1) := by decide +kernel
theorem dX12_room_6 : decode cX12_room 6 = .ok (.iconst 1, 1) := by decide +kernel
theorem dX12_room_7 : decode cX12_room 7 = .ok (.if_icmp .lt 9, 3) := by decide +kernel
theorem dX12_room_10 : decode cX12_room 10 = .ok (.iload_n 1, 1) := by decide +kernel
theorem dX12_room_11 : decode cX12_room 11 = .ok (.bipush 64, 2) := by decide +kernel
theorem dX12_room_13 : decode cX12_room 13 = .ok (.if_icmp .le 5, 3) := by decide +kernel
theorem dX12_room_16 : decode cX12_room 16 = .ok (.iconst 0, 1) := by decide +kernel
theorem dX12_room_17 : decode cX12_room 17 = .ok (.ireturn, 1) := by decide +kernel
theorem dX12_room_18 : decode cX12_room 18 = .ok (.aload_n 0, 1) := by decide +kernel
theorem dX12_room_19 : decode cX12_room 19 = .ok (.iload_n 1, 1) := by decide +kernel
theorem dX12_room_20 : decode cX12_room 20 = .ok (.putfield 90, 3) := by decide +kernel
theorem dX12_room_23 : decode cX12_room 23 = .ok (.aload_n 0, 1) := by decide +kernel
theorem dX12_room_24 : decode cX12_room 24 = .ok (.iconst 0, 1) := by decide +kernel
theorem dX12_room_25 : decode cX12_room 25 = .ok (.putfield 340, 3) := by decide +kernel
theorem dX12_room_28 : decode cX12_room 28 = .ok (.iconst 1, 1) := by decide +kernel
theorem dX12_room_29 : decode cX12_room 29 = .ok (.ireturn, 1) := by decide +kernel
theorem e_X12_room {X : gk_X} {F : Nat} {S : gk_S} {a : Nat} {p0 : Int32} {r : (Int32 × gk_S)} (h0 : f_X12_room F S a p0 = some r) : EvM X m_X12_room 1 0 0 [.ref a, .int p0] S (qRI r) := by
  unfold f_X12_room at h0
  refine ev_method (by decide +kernel) rfl rfl (Nat.le_of_ble_eq_true rfl) ?_
  show EvW X m_X12_room 1 0 0 0 [some (.ref a), some (.int p0)] [] S _
  refine ev_aload_n (pc := 0) (i := 0) rfl rfl rfl dX12_room_0 ?_
  refine ev_iconst (pc := 1) (v := 0) (by decide) dX12_room_1 ?_
  obtain ⟨g1, h2⟩ := qk_el h0; clear h0
  obtain ⟨S3, e4, h5⟩ := qv_el h2; clear h2
  refine yv_putI (pc := 2) fn_900 ⟨rfl, rfl⟩ (isb_el g1) e4 gw_1140 dX12_room_2 ?_
  refine ev_iload_n (pc := 5) (i := 1) rfl rfl dX12_room_5 ?_
  refine ev_iconst (pc := 6) (v := 1) (by decide) dX12_room_6 ?_
  refine ev_ic_lt (pc := 7) (tgt := 16) (by decide) dX12_room_7 (fun c6 => ?_) (fun c6 => ?_)
  · replace h5 := qi_t h5 c6
    refine ev_iconst (pc := 16) (v := 0) (by decide) dX12_room_16 ?_
    exact ev_ireturn (pc := 17) rfl rfl (qRI_eq h5) dX12_room_17
  · replace h5 := qi_f h5 c6
    refine ev_iload_n (pc := 10) (i := 1) rfl rfl dX12_room_10 ?_
    refine ev_bipush (pc := 11) (v := 64) (by decide) dX12_room_11 ?_
    refine ev_ic_le (pc := 13) (tgt := 18) (by decide) dX12_room_13 (fun c8 => ?_) (fun c8 => ?_)
    · replace h5 := qi_t h5 c8
      refine ev_aload_n (pc := 18) (i := 0) rfl rfl rfl dX12_room_18 ?_
      refine ev_iload_n (pc := 19) (i := 1) rfl rfl dX12_room_19 ?_
      obtain ⟨S10, e11, h12⟩ := qv_el h5; clear h5
      refine yv_putI (pc := 20) fn_933 ⟨rfl, rfl⟩ (is_sI (isb_el g1) e4) e11 gw_1173 dX12_room_20 ?_
      refine ev_aload_n (pc := 23) (i := 0) rfl rfl rfl dX12_room_23 ?_
      refine ev_iconst (pc := 24) (v := 0) (by decide) dX12_room_24 ?_
      obtain ⟨S13, e14, h15⟩ := qv_el h12; clear h12
      refine yv_putI (pc := 25) fn_932 ⟨rfl, rfl⟩ (is_sI (is_sI (isb_el g1) e4) e11) e14 gw_1172 dX12_room_25 ?_
      refine ev_iconst (pc := 28) (v := 1) (by decide) dX12_room_28 ?_
      exact ev_ireturn (pc := 29) rfl rfl (qRI_eq h15) dX12_room_29
    · replace h5 := qi_f h5 c8
      refine ev_iconst (pc := 16) (v := 0) (by decide) dX12_room_16 ?_
      exact ev_ireturn (pc := 17) rfl rfl (qRI_eq h5) dX12_room_17
theorem dX11_packet_0 : decode cX11_packet 0 = .ok (.iload_n 1, 1) := by decide +kernel
theorem dX11_packet_1 : decode cX11_packet 1 = .ok (.iload_n 2, 1) := by decide +kernel
theorem dX11_packet_2 : decode cX11_packet 2 = .ok (.iload 5, 2) := by decide +kernel
theorem dX11_packet_4 : decode cX11_packet 4 = .ok (.iload 6, 2) := by decide +kernel
theorem dX11_packet_6 : decode cX11_packet 6 = .ok (.invokestatic 139, 3) := by decide +kernel
theorem dX11_packet_9 : decode cX11_packet 9 = .ok (.iload 7, 2) := by decide +kernel
theorem dX11_packet_11 : decode cX11_packet 11 = .ok (.ifCond .lt 10, 3) := by decide +kernel
theorem dX11_packet_14 : decode cX11_packet 14 = .ok (.iload 7, 2) := by decide +kernel
theorem dX11_packet_16 : decode cX11_packet 16 = .ok (.bipush 63, 2) := by decide +kernel
theorem dX11_packet_18 : decode cX11_packet 18 = .ok (.if_icmp .le 13, 3) := by decide +kernel
theorem dX11_packet_21 : decode cX11_packet 21 = .ok (.new 143, 3) := by decide +kernel
theorem dX11_packet_24 : decode cX11_packet 24 = .ok (.dup, 1) := by decide +kernel
theorem dX11_packet_25 : decode cX11_packet 25 = .ok (.ldc 183, 2) := by decide +kernel
theorem dX11_packet_27 : decode cX11_packet 27 = .ok (.invokespecial 147, 3) := by decide +kernel
theorem dX11_packet_30 : decode cX11_packet 30 = .ok (.athrow, 1) := by decide +kernel
theorem dX11_packet_31 : decode cX11_packet 31 = .ok (.aload_n 0, 1) := by decide +kernel
theorem dX11_packet_32 : decode cX11_packet 32 = .ok (.getfield 58, 3) := by decide +kernel
theorem dX11_packet_35 : decode cX11_packet 35 = .ok (.iload_n 1, 1) := by decide +kernel
theorem dX11_packet_36 : decode cX11_packet 36 = .ok (.iload_n 2, 1) := by decide +kernel
theorem dX11_packet_37 : decode cX11_packet 37 = .ok (.iload_n 3, 1) := by decide +kernel
theorem dX11_packet_38 : decode cX11_packet 38 = .ok (.iload 4, 2) := by decide +kernel
theorem dX11_packet_40 : decode cX11_packet 40 = .ok (.iload 5, 2) := by decide +kernel
theorem dX11_packet_42 : decode cX11_packet 42 = .ok (.iload 6, 2) := by decide +kernel
theorem dX11_packet_44 : decode cX11_packet 44 = .ok (.invokevirtual 148, 3) := by decide +kernel
theorem dX11_packet_47 : decode cX11_packet 47 = .ok (.aload_n 0, 1) := by decide +kernel
theorem dX11_packet_48 : decode cX11_packet 48 = .ok (.getfield 58, 3) := by decide +kernel
theorem dX11_packet_51 : decode cX11_packet 51 = .ok (.iload 7, 2) := by decide +kernel
theorem dX11_packet_53 : decode cX11_packet 53 = .ok (.putfield 185, 3) := by decide +kernel
theorem dX11_packet_56 : decode cX11_packet 56 = .ok (.aload_n 0, 1) := by decide +kernel
theorem dX11_packet_57 : decode cX11_packet 57 = .ok (.iconst 0, 1) := by decide +kernel
theorem dX11_packet_58 : decode cX11_packet 58 = .ok (.invokevirtual 188, 3) := by decide +kernel
theorem dX11_packet_61 : decode cX11_packet 61 = .ok (.ireturn, 1) := by decide +kernel
theorem e_X11_packet_21 {X : gk_X} {F : Nat} {k j : Nat}  {S : gk_S} {r : ((Int32 ⊕ String) × gk_S)} (hb : qb r k j) (h0 : f_X11_packet_21 F  S = some r) : EvW X m_X11_packet 7 k j 21 [none, none, none, none, none, none, none, none] [] S (qXI r) := by
  unfold f_X11_packet_21 at h0
  cases h0
  exact ev_throwS (pc := 21) (i := 28) (by decide) rfl rfl rfl rfl gx_okA (by decide +kernel) gw_777 gw_21 rfl (by decide) (by decide) (qb_inr hb).1 (qb_inr hb).2 rfl dX11_packet_21 dX11_packet_24 dX11_packet_25 dX11_packet_27 dX11_packet_30
theorem e_X11_packet {X : gk_X} {F : Nat} {k j : Nat} {S : gk_S} {a : Nat} {p0 : Int32} {p1 : Int32} {p2 : Int32} {p3 : Int32} {p4 : Int32} {p5 : Int32} {p6 : Int32} {r : ((Int32 ⊕ String) × gk_S)} (hb : qb r k j) (h0 : f_X11_packet F S a p0 p1 p2 p3 p4 p5 p6 = some r) : EvM X m_X11_packet 7 k j [.ref a, .int p0, .int p1, .int p2, .int p3, .int p4, .int p5, .int p6] S (qXI r) := by
  unfold f_X11_packet at h0
  refine ev_method (by decide +kernel) rfl rfl (Nat.le_of_ble_eq_true rfl) ?_
  show EvW X m_X11_packet 7 k j 0 [some (.ref a), some (.int p0), some (.int p1), some (.int p2), some (.int p3), some (.int p4), some (.int p5), some (.int p6)] [] S _
  refine ev_iload_n (pc := 0) (i := 1) rfl rfl dX11_packet_0 ?_
  refine ev_iload_n (pc := 1) (i := 2) rfl rfl dX11_packet_1 ?_
  refine ev_iload (pc := 2) (i := 5) rfl dX11_packet_2 ?_
  refine ev_iload (pc := 4) (i := 6) rfl dX11_packet_4 ?_
  rcases qx_el h0 with ⟨E5, T6, e3, z1⟩ | ⟨x1, S2, e3, h4⟩
  · subst z1
    exact xv_thrS (pc := 6) (st := []) (as := [.int p0, .int p1, .int p4, .int p5]) ok_X11_checkFields (e_X11_checkFields (fun _ _ => qb_inr hb) e3) rfl rfl (by decide) (Nat.le_refl _) (Nat.le_refl _) rfl (Nat.le_of_ble_eq_true rfl) rfl gw_773 dX11_packet_6
  clear h0
  refine xv_callS (pc := 6) (st := []) (as := [.int p0, .int p1, .int p4, .int p5]) (v := none) (S' := S2) ok_X11_checkFields (e_X11_checkFields (k := 0) (j := 0) qb_inl e3) (by decide) rfl (Nat.le_of_ble_eq_true rfl) rfl gw_773 dX11_packet_6 ?_
  refine ev_iload (pc := 9) (i := 7) rfl dX11_packet_9 ?_
  refine ev_if_lt (pc := 11) (tgt := 21) (by decide) dX11_packet_11 (fun c7 => ?_) (fun c7 => ?_)
  · replace h4 := qi_t h4 c7
    exact ev_weak (qL_n (qL_n (qL_n (qL_n (qL_n (qL_n (qL_n (qL_n qL_nil)))))))) (e_X11_packet_21 hb h4)
  · replace h4 := qi_f h4 c7
    refine ev_iload (pc := 14) (i := 7) rfl dX11_packet_14 ?_
    refine ev_bipush (pc := 16) (v := 63) (by decide) dX11_packet_16 ?_
    refine ev_ic_le (pc := 18) (tgt := 31) (by decide) dX11_packet_18 (fun c9 => ?_) (fun c9 => ?_)
    · replace h4 := qi_t h4 c9
      refine ev_aload_n (pc := 31) (i := 0) rfl rfl rfl dX11_packet_31 ?_
      obtain ⟨g11, h12⟩ := qk_el h4; clear h4
      obtain ⟨b13, e14, h15⟩ := qP_el h12; clear h12
      refine xv_getP (pc := 32) fn_806 (isb_el g11) e14 gw_288 dX11_packet_32 ?_
      refine ev_iload_n (pc := 35) (i := 1) rfl rfl dX11_packet_35 ?_
      refine ev_iload_n (pc := 36) (i := 2) rfl rfl dX11_packet_36 ?_
      refine ev_iload_n (pc := 37) (i := 3) rfl rfl dX11_packet_37 ?_
      refine ev_iload (pc := 38) (i := 4) rfl dX11_packet_38 ?_
      refine ev_iload (pc := 40) (i := 5) rfl dX11_packet_40 ?_
      refine ev_iload (pc := 42) (i := 6) rfl dX11_packet_42 ?_
      obtain ⟨g16, h17⟩ := qk_el h15; clear h15
      obtain ⟨x18, S19, e20, h21⟩ := qc_el h17; clear h17
      refine xv_callV (pc := 44) (st := []) (as := [.int p0, .int p1, .int p2, .int p3, .int p4, .int p5]) (v := none) (S' := S19) ok_X3_fill (e_X3_fill e20) (isb_el g16) (by decide) rfl (Nat.le_of_ble_eq_true rfl) rfl gw_795 dX11_packet_44 ?_
      refine ev_aload_n (pc := 47) (i := 0) rfl rfl rfl dX11_packet_47 ?_
      obtain ⟨g22, h23⟩ := qk_el h21; clear h21
      obtain ⟨b24, e25, h26⟩ := qP_el h23; clear h23
      refine xv_getP (pc := 48) fn_806 (isb_el g22) e25 gw_288 dX11_packet_48 ?_
      refine ev_iload (pc := 51) (i := 7) rfl dX11_packet_51 ?_
      obtain ⟨g27, h28⟩ := qk_el h26; clear h26
      obtain ⟨S29, e30, h31⟩ := qv_el h28; clear h28
      refine yv_putI (pc := 53) fn_201 ⟨rfl, rfl⟩ (isb_el g27) e30 gw_276 dX11_packet_53 ?_
      refine ev_aload_n (pc := 56) (i := 0) rfl rfl rfl dX11_packet_56 ?_
      refine ev_iconst (pc := 57) (v := 0) (by decide) dX11_packet_57 ?_
      obtain ⟨x32, S33, e34, h35⟩ := qc_el h31; clear h31
      refine xv_callV (pc := 58) (st := []) (as := [.int 0]) (v := (some (.int x32))) (S' := S33) ok_X11_judge (e_X11_judge e34) (is_sI (isb_el g22) e30) (by decide) rfl (Nat.le_of_ble_eq_true rfl) rfl gw_936 dX11_packet_58 ?_
      cases h35
      exact ev_ireturn (pc := 61) rfl (nar_int _) rfl dX11_packet_61
    · replace h4 := qi_f h4 c9
      exact ev_weak (qL_n (qL_n (qL_n (qL_n (qL_n (qL_n (qL_n (qL_n qL_nil)))))))) (e_X11_packet_21 hb h4)
theorem dL_packet_0 : decode cL_packet 0 = .ok (.aload 8, 2) := by decide +kernel
theorem dL_packet_2 : decode cL_packet 2 = .ok (.iconst 0, 1) := by decide +kernel
theorem dL_packet_3 : decode cL_packet 3 = .ok (.aload_n 0, 1) := by decide +kernel
theorem dL_packet_4 : decode cL_packet 4 = .ok (.iload_n 1, 1) := by decide +kernel
theorem dL_packet_5 : decode cL_packet 5 = .ok (.iload_n 2, 1) := by decide +kernel
theorem dL_packet_6 : decode cL_packet 6 = .ok (.iload_n 3, 1) := by decide +kernel
theorem dL_packet_7 : decode cL_packet 7 = .ok (.iload 4, 2) := by decide +kernel
theorem dL_packet_9 : decode cL_packet 9 = .ok (.iload 5, 2) := by decide +kernel
theorem dL_packet_11 : decode cL_packet 11 = .ok (.iload 6, 2) := by decide +kernel
theorem dL_packet_13 : decode cL_packet 13 = .ok (.iload 7, 2) := by decide +kernel
theorem dL_packet_15 : decode cL_packet 15 = .ok (.invokevirtual 50, 3) := by decide +kernel
theorem dL_packet_18 : decode cL_packet 18 = .ok (.i2l, 1) := by decide +kernel
theorem dL_packet_19 : decode cL_packet 19 = .ok (.lastore, 1) := by decide +kernel
theorem dL_packet_20 : decode cL_packet 20 = .ok (.goto 7, 3) := by decide +kernel
theorem dL_packet_23 : decode cL_packet 23 = .ok (.astore 9, 2) := by decide +kernel
theorem dL_packet_25 : decode cL_packet 25 = .ok (.iconst 1, 1) := by decide +kernel
theorem dL_packet_26 : decode cL_packet 26 = .ok (.ireturn, 1) := by decide +kernel
theorem dL_packet_27 : decode cL_packet 27 = .ok (.iconst 0, 1) := by decide +kernel
theorem dL_packet_28 : decode cL_packet 28 = .ok (.ireturn, 1) := by decide +kernel
theorem e_L_packet {X : gk_X} {F : Nat} {k j : Nat} {S : gk_S} {p0 : Nat} {p1 : Int32} {p2 : Int32} {p3 : Int32} {p4 : Int32} {p5 : Int32} {p6 : Int32} {p7 : Int32} {p8 : Nat} {r : (Int32 × gk_S)} (hb : r.1 = 0 ∨ (1 ≤ k ∧ 6 ≤ j)) (h0 : f_L_packet F S p0 p1 p2 p3 p4 p5 p6 p7 p8 = some r) : EvM X m_L_packet 8 k j [.ref p0, .int p1, .int p2, .int p3, .int p4, .int p5, .int p6, .int p7, .ref p8] S (qRI r) := by
  unfold f_L_packet at h0
  refine ev_methodH (by decide +kernel) (by decide) rfl (Nat.le_of_ble_eq_true rfl) ?_
  show EvW X m_L_packet 8 k j 0 [some (.ref p0), some (.int p1), some (.int p2), some (.int p3), some (.int p4), some (.int p5), some (.int p6), some (.int p7), some (.ref p8), none] [] S _
  refine ev_aload (pc := 0) (i := 8) rfl rfl dL_packet_0 ?_
  refine ev_iconst (pc := 2) (v := 0) (by decide) dL_packet_2 ?_
  refine ev_aload_n (pc := 3) (i := 0) rfl rfl rfl dL_packet_3 ?_
  refine ev_iload_n (pc := 4) (i := 1) rfl rfl dL_packet_4 ?_
  refine ev_iload_n (pc := 5) (i := 2) rfl rfl dL_packet_5 ?_
  refine ev_iload_n (pc := 6) (i := 3) rfl rfl dL_packet_6 ?_
  refine ev_iload (pc := 7) (i := 4) rfl dL_packet_7 ?_
  refine ev_iload (pc := 9) (i := 5) rfl dL_packet_9 ?_
  refine ev_iload (pc := 11) (i := 6) rfl dL_packet_11 ?_
  refine ev_iload (pc := 13) (i := 7) rfl dL_packet_13 ?_
  obtain ⟨g1, h2⟩ := qk_el h0; clear h0
  rcases qh_el h2 with ⟨E7, T8, e5, h6⟩ | ⟨x3, S4, e5, h6⟩
  · by_cases c9 : E7 = gx_A
    · replace h6 := qi_t h6 c9; subst c9
      have hb9 : 1 ≤ k ∧ 6 ≤ j := by cases h6; exact hb.resolve_left (show ¬ (1 : Int32) = 0 by decide)
      refine yv_catV (pc := 15) (st := [.int 0, .ref p8]) (as := [.int p1, .int p2, .int p3, .int p4, .int p5, .int p6, .int p7]) (i9 := 9) (len9 := 2) (pre := []) (suf := []) (x := (0, 20, 23, 34)) (name := "java/lang/IllegalArgumentException") ok_X11_packet (e_X11_packet (k := k) (j := j) (fun _ _ => hb9) e5) (isb_el g1) rfl (by intro z hz; cases hz) (by decide) (by decide) (by decide) gw_768 (by decide +kernel) (.inl ⟨rfl, rfl⟩) (by decide) rfl (gl9 rfl) (by decide) rfl (Nat.le_of_ble_eq_true rfl) rfl gw_931 dL_packet_15 dL_packet_23 ?_
      refine ev_iconst (pc := 25) (v := 1) (by decide) dL_packet_25 ?_
      exact ev_ireturn (pc := 26) rfl rfl (by cases h6; rfl) dL_packet_26
    replace h6 := qi_f h6 c9
    cases h6
  clear h2
  refine xv_callV (pc := 15) (st := [.int 0, .ref p8]) (as := [.int p1, .int p2, .int p3, .int p4, .int p5, .int p6, .int p7]) (v := (some (.int x3))) (S' := S4) ok_X11_packet (e_X11_packet (k := 0) (j := 0) qb_inl e5) (isb_el g1) (by decide) rfl (Nat.le_of_ble_eq_true rfl) rfl gw_931 dL_packet_15 ?_
  refine ev_i2l (pc := 18)  dL_packet_18 ?_
  obtain ⟨g10, h11⟩ := qk_el h6; clear h6
  obtain ⟨g12, h13⟩ := qk_el h11; clear h11
  obtain ⟨S14, e15, h16⟩ := qv_el h13; clear h13
  refine yv_last (pc := 19) (isb_el g10) (inb_el g12) e15 dL_packet_19 ?_
  refine ev_goto (pc := 20) (tgt := 27) (by decide) dL_packet_20 ?_
  refine ev_iconst (pc := 27) (v := 0) (by decide) dL_packet_27 ?_
  exact ev_ireturn (pc := 28) rfl (nar_int _) (qRI_eq h16) dL_packet_28
theorem dX12_side_0 : decode cX12_side 0 = .ok (.bipush 9, 2) := by decide +kernel
theorem dX12_side_2 : decode cX12_side 2 = .ok (.iload_n 1, 1) := by decide +kernel
theorem dX12_side_3 : decode cX12_side 3 = .ok (.imul, 1) := by decide +kernel
theorem dX12_side_4 : decode cX12_side 4 = .ok (.istore 7, 2) := by decide +kernel
theorem dX12_side_6 : decode cX12_side 6 = .ok (.aload_n 0, 1) := by decide +kernel
theorem dX12_side_7 : decode cX12_side 7 = .ok (.getfield 87, 3) := by decide +kernel
theorem dX12_side_10 : decode cX12_side 10 = .ok (.iload 7, 2) := by decide +kernel
theorem dX12_side_12 : decode cX12_side 12 = .ok (.iaload, 1) := by decide +kernel
theorem dX12_side_13 : decode cX12_side 13 = .ok (.iload_n 2, 1) := by decide +kernel
theorem dX12_side_14 : decode cX12_side 14 = .ok (.if_icmp .eq 5, 3) := by decide +kernel
theorem dX12_side_17 : decode cX12_side 17 = .ok (.iconst 0, 1) := by decide +kernel
theorem dX12_side_18 : decode cX12_side 18 = .ok (.ireturn, 1) := by decide +kernel
theorem dX12_side_19 : decode cX12_side 19 = .ok (.aload_n 0, 1) := by decide +kernel
theorem dX12_side_20 : decode cX12_side 20 = .ok (.getfield 87, 3) := by decide +kernel
theorem dX12_side_23 : decode cX12_side 23 = .ok (.iload 7, 2) := by decide +kernel
theorem dX12_side_25 : decode cX12_side 25 = .ok (.iconst 1, 1) := by decide +kernel
theorem dX12_side_26 : decode cX12_side 26 = .ok (.iadd, 1) := by decide +kernel
theorem dX12_side_27 : decode cX12_side 27 = .ok (.iaload, 1) := by decide +kernel
theorem dX12_side_28 : decode cX12_side 28 = .ok (.iload_n 3, 1) := by decide +kernel
theorem dX12_side_29 : decode cX12_side 29 = .ok (.if_icmp .ne 21, 3) := by decide +kernel
theorem dX12_side_32 : decode cX12_side 32 = .ok (.aload_n 0, 1) := by decide +kernel
theorem dX12_side_33 : decode cX12_side 33 = .ok (.getfield 87, 3) := by decide +kernel
theorem dX12_side_36 : decode cX12_side 36 = .ok (.iload 7, 2) := by decide +kernel
theorem dX12_side_38 : decode cX12_side 38 = .ok (.iconst 2, 1) := by decide +kernel
theorem dX12_side_39 : decode cX12_side 39 = .ok (.iadd, 1) := by decide +kernel
theorem dX12_side_40 : decode cX12_side 40 = .ok (.iaload, 1) := by decide +kernel
theorem dX12_side_41 : decode cX12_side 41 = .ok (.iload 4, 2) := by decide +kernel
theorem dX12_side_43 : decode cX12_side 43 = .ok (.if_icmp .ne 7, 3) := by decide +kernel
theorem dX12_side_46 : decode cX12_side 46 = .ok (.iconst 1, 1) := by decide +kernel
theorem dX12_side_47 : decode cX12_side 47 = .ok (.goto 4, 3) := by decide +kernel
theorem dX12_side_50 : decode cX12_side 50 = .ok (.iconst 0, 1) := by decide +kernel
theorem dX12_side_51 : decode cX12_side 51 = .ok (.istore 8, 2) := by decide +kernel
theorem dX12_side_53 : decode cX12_side 53 = .ok (.aload_n 0, 1) := by decide +kernel
theorem dX12_side_54 : decode cX12_side 54 = .ok (.getfield 87, 3) := by decide +kernel
theorem dX12_side_57 : decode cX12_side 57 = .ok (.iload 7, 2) := by decide +kernel
theorem dX12_side_59 : decode cX12_side 59 = .ok (.iconst 1, 1) := by decide +kernel
theorem dX12_side_60 : decode cX12_side 60 = .ok (.iadd, 1) := by decide +kernel
theorem dX12_side_61 : decode cX12_side 61 = .ok (.iaload, 1) := by decide +kernel
theorem dX12_side_62 : decode cX12_side 62 = .ok (.iload 4, 2) := by decide +kernel
theorem dX12_side_64 : decode cX12_side 64 = .ok (.if_icmp .ne 20, 3) := by decide +kernel
theorem dX12_side_67 : decode cX12_side 67 = .ok (.aload_n 0, 1) := by decide +kernel
theorem dX12_side_68 : decode cX12_side 68 = .ok (.getfield 87, 3) := by decide +kernel
theorem dX12_side_71 : decode cX12_side 71 = .ok (.iload 7, 2) := by decide +kernel
theorem dX12_side_73 : decode cX12_side 73 = .ok (.iconst 2, 1) := by decide +kernel
theorem dX12_side_74 : decode cX12_side 74 = .ok (.iadd, 1) := by decide +kernel
theorem dX12_side_75 : decode cX12_side 75 = .ok (.iaload, 1) := by decide +kernel
theorem dX12_side_76 : decode cX12_side 76 = .ok (.iload_n 3, 1) := by decide +kernel
theorem dX12_side_77 : decode cX12_side 77 = .ok (.if_icmp .ne 7, 3) := by decide +kernel
theorem dX12_side_80 : decode cX12_side 80 = .ok (.iconst 1, 1) := by decide +kernel
theorem dX12_side_81 : decode cX12_side 81 = .ok (.goto 4, 3) := by decide +kernel
theorem dX12_side_84 : decode cX12_side 84 = .ok (.iconst 0, 1) := by decide +kernel
theorem dX12_side_85 : decode cX12_side 85 = .ok (.istore 9, 2) := by decide +kernel
theorem dX12_side_87 : decode cX12_side 87 = .ok (.iload_n 2, 1) := by decide +kernel
theorem dX12_side_88 : decode cX12_side 88 = .ok (.iconst 1, 1) := by decide +kernel
theorem dX12_side_89 : decode cX12_side 89 = .ok (.if_icmp .ne 59, 3) := by decide +kernel
theorem dX12_side_92 : decode cX12_side 92 = .ok (.aload_n 0, 1) := by decide +kernel
theorem dX12_side_93 : decode cX12_side 93 = .ok (.getfield 87, 3) := by decide +kernel
theorem dX12_side_96 : decode cX12_side 96 = .ok (.iload 7, 2) := by decide +kernel
theorem dX12_side_98 : decode cX12_side 98 = .ok (.iconst 4, 1) := by decide +kernel
theorem dX12_side_99 : decode cX12_side 99 = .ok (.iadd, 1) := by decide +kernel
theorem dX12_side_100 : decode cX12_side 100 = .ok (.iaload, 1) := by decide +kernel
theorem dX12_side_101 : decode cX12_side 101 = .ok (.iload 6, 2) := by decide +kernel
theorem dX12_side_103 : decode cX12_side 103 = .ok (.if_icmp .eq 5, 3) := by decide +kernel
theorem dX12_side_106 : decode cX12_side 106 = .ok (.iconst 0, 1) := by decide +kernel
theorem dX12_side_107 : decode cX12_side 107 = .ok (.ireturn, 1) := by decide +kernel
theorem dX12_side_108 : decode cX12_side 108 = .ok (.iload 5, 2) := by decide +kernel
theorem dX12_side_110 : decode cX12_side 110 = .ok (.sipush 256, 3) := by decide +kernel
theorem dX12_side_113 : decode cX12_side 113 = .ok (.idiv, 1) := by decide +kernel
theorem dX12_side_114 : decode cX12_side 114 = .ok (.istore 10, 2) := by decide +kernel
theorem dX12_side_116 : decode cX12_side 116 = .ok (.iload 10, 2) := by decide +kernel
theorem dX12_side_118 : decode cX12_side 118 = .ok (.bipush 8, 2) := by decide +kernel
theorem dX12_side_120 : decode cX12_side 120 = .ok (.if_icmp .ne 12, 3) := by decide +kernel
theorem dX12_side_123 : decode cX12_side 123 = .ok (.iload 8, 2) := by decide +kernel
theorem dX12_side_125 : decode cX12_side 125 = .ok (.ifCond .eq 7, 3) := by decide +kernel
theorem dX12_side_128 : decode cX12_side 128 = .ok (.iconst 1, 1) := by decide +kernel
theorem dX12_side_129 : decode cX12_side 129 = .ok (.goto 18, 3) := by decide +kernel
theorem dX12_side_132 : decode cX12_side 132 = .ok (.iload 10, 2) := by decide +kernel
theorem dX12_side_134 : decode cX12_side 134 = .ok (.ifCond .ne 12, 3) := by decide +kernel
theorem dX12_side_137 : decode cX12_side 137 = .ok (.iload 9, 2) := by decide +kernel
theorem dX12_side_139 : decode cX12_side 139 = .ok (.ifCond .eq 7, 3) := by decide +kernel
theorem dX12_side_142 : decode cX12_side 142 = .ok (.iconst 2, 1) := by decide +kernel
theorem dX12_side_143 : decode cX12_side 143 = .ok (.goto 4, 3) := by decide +kernel
theorem dX12_side_146 : decode cX12_side 146 = .ok (.iconst 0, 1) := by decide +kernel
theorem dX12_side_147 : decode cX12_side 147 = .ok (.ireturn, 1) := by decide +kernel
theorem dX12_side_148 : decode cX12_side 148 = .ok (.iload 8, 2) := by decide +kernel
theorem dX12_side_150 : decode cX12_side 150 = .ok (.ifCond .eq 33, 3) := by decide +kernel
theorem dX12_side_153 : decode cX12_side 153 = .ok (.aload_n 0, 1) := by decide +kernel
theorem dX12_side_154 : decode cX12_side 154 = .ok (.getfield 87, 3) := by decide +kernel
theorem dX12_side_157 : decode cX12_side 157 = .ok (.iload 7, 2) := by decide +kernel
theorem dX12_side_159 : decode cX12_side 159 = .ok (.iconst 3, 1) := by decide +kernel
theorem dX12_side_160 : decode cX12_side 160 = .ok (.iadd, 1) := by decide +kernel
theorem dX12_side_161 : decode cX12_side 161 = .ok (.iaload, 1) := by decide +kernel
theorem dX12_side_162 : decode cX12_side 162 = .ok (.iload 5, 2) := by decide +kernel
theorem dX12_side_164 : decode cX12_side 164 = .ok (.if_icmp .ne 19, 3) := by decide +kernel
theorem dX12_side_167 : decode cX12_side 167 = .ok (.aload_n 0, 1) := by decide +kernel
theorem dX12_side_168 : decode cX12_side 168 = .ok (.getfield 87, 3) := by decide +kernel
theorem dX12_side_171 : decode cX12_side 171 = .ok (.iload 7, 2) := by decide +kernel
theorem dX12_side_173 : decode cX12_side 173 = .ok (.iconst 4, 1) := by decide +kernel
theorem dX12_side_174 : decode cX12_side 174 = .ok (.iadd, 1) := by decide +kernel
theorem dX12_side_175 : decode cX12_side 175 = .ok (.iaload, 1) := by decide +kernel
theorem dX12_side_176 : decode cX12_side 176 = .ok (.iload 6, 2) := by decide +kernel
theorem dX12_side_178 : decode cX12_side 178 = .ok (.if_icmp .ne 5, 3) := by decide +kernel
theorem dX12_side_181 : decode cX12_side 181 = .ok (.iconst 1, 1) := by decide +kernel
theorem dX12_side_182 : decode cX12_side 182 = .ok (.ireturn, 1) := by decide +kernel
theorem dX12_side_183 : decode cX12_side 183 = .ok (.iload 9, 2) := by decide +kernel
theorem dX12_side_185 : decode cX12_side 185 = .ok (.ifCond .eq 35, 3) := by decide +kernel
theorem dX12_side_188 : decode cX12_side 188 = .ok (.aload_n 0, 1) := by decide +kernel
theorem dX12_side_189 : decode cX12_side 189 = .ok (.getfield 87, 3) := by decide +kernel
theorem dX12_side_192 : decode cX12_side 192 = .ok (.iload 7, 2) := by decide +kernel
theorem dX12_side_194 : decode cX12_side 194 = .ok (.iconst 3, 1) := by decide +kernel
theorem dX12_side_195 : decode cX12_side 195 = .ok (.iadd, 1) := by decide +kernel
theorem dX12_side_196 : decode cX12_side 196 = .ok (.iaload, 1) := by decide +kernel
theorem dX12_side_197 : decode cX12_side 197 = .ok (.iload 6, 2) := by decide +kernel
theorem dX12_side_199 : decode cX12_side 199 = .ok (.if_icmp .ne 21, 3) := by decide +kernel
theorem dX12_side_202 : decode cX12_side 202 = .ok (.aload_n 0, 1) := by decide +kernel
theorem dX12_side_203 : decode cX12_side 203 = .ok (.getfield 87, 3) := by decide +kernel
theorem dX12_side_206 : decode cX12_side 206 = .ok (.iload 7, 2) := by decide +kernel
theorem dX12_side_208 : decode cX12_side 208 = .ok (.iconst 4, 1) := by decide +kernel
theorem dX12_side_209 : decode cX12_side 209 = .ok (.iadd, 1) := by decide +kernel
theorem dX12_side_210 : decode cX12_side 210 = .ok (.iaload, 1) := by decide +kernel
theorem dX12_side_211 : decode cX12_side 211 = .ok (.iload 5, 2) := by decide +kernel
theorem dX12_side_213 : decode cX12_side 213 = .ok (.if_icmp .ne 7, 3) := by decide +kernel
theorem dX12_side_216 : decode cX12_side 216 = .ok (.iconst 2, 1) := by decide +kernel
theorem dX12_side_217 : decode cX12_side 217 = .ok (.goto 4, 3) := by decide +kernel
theorem dX12_side_220 : decode cX12_side 220 = .ok (.iconst 0, 1) := by decide +kernel
theorem dX12_side_221 : decode cX12_side 221 = .ok (.ireturn, 1) := by decide +kernel
theorem e_X12_side_183 {X : gk_X} {F : Nat} {l0 : Nat} {l5 : Int32} {l6 : Int32} {l7 : Int32} {l9 : Int32} {S : gk_S} {r : (Int32 × gk_S)} (h0 : f_X12_side_183 F l0 l5 l6 l7 l9 S = some r) : EvW X m_X12_side 1 0 0 183 [some (.ref l0), none, none, none, none, some (.int l5), some (.int l6), some (.int l7), none, some (.int l9), none] [] S (qRI r) := by
  unfold f_X12_side_183 at h0
  refine ev_iload (pc := 183) (i := 9) rfl dX12_side_183 ?_
  refine ev_if_eq (pc := 185) (tgt := 220) (by decide) dX12_side_185 (fun c45 => ?_) (fun c45 => ?_)
  · replace h0 := qi_t h0 c45
    refine ev_iconst (pc := 220) (v := 0) (by decide) dX12_side_220 ?_
    exact ev_ireturn (pc := 221) rfl (nar_int _) (qRI_eq h0) dX12_side_221
  · replace h0 := qi_f h0 c45
    refine ev_aload_n (pc := 188) (i := 0) rfl rfl rfl dX12_side_188 ?_
    obtain ⟨g47, h48⟩ := qk_el h0; clear h0
    obtain ⟨b49, e50, h51⟩ := qP_el h48; clear h48
    refine xv_getP (pc := 189) fn_931 (isb_el g47) e50 gw_1171 dX12_side_189 ?_
    refine ev_iload (pc := 192) (i := 7) rfl dX12_side_192 ?_
    refine ev_iconst (pc := 194) (v := 3) (by decide) dX12_side_194 ?_
    refine ev_iadd (pc := 195)  dX12_side_195 ?_
    obtain ⟨g52, h53⟩ := qk_el h51; clear h51
    obtain ⟨g54, h55⟩ := qk_el h53; clear h53
    obtain ⟨x56, e57, h58⟩ := qv_el h55; clear h55
    refine yv_iald (pc := 196) (isb_el g52) (inb_el g54) e57 dX12_side_196 ?_
    refine ev_iload (pc := 197) (i := 6) rfl dX12_side_197 ?_
    refine ev_ic_ne (pc := 199) (tgt := 220) (by decide) dX12_side_199 (fun c59 => ?_) (fun c59 => ?_)
    · replace h58 := qi_f h58 c59
      refine ev_iconst (pc := 220) (v := 0) (by decide) dX12_side_220 ?_
      exact ev_ireturn (pc := 221) rfl (nar_int _) (qRI_eq h58) dX12_side_221
    · replace h58 := qi_t h58 c59
      refine ev_aload_n (pc := 202) (i := 0) rfl rfl rfl dX12_side_202 ?_
      obtain ⟨b61, e62, h63⟩ := qP_el h58; clear h58
      refine xv_getP (pc := 203) fn_931 (isb_el g47) e62 gw_1171 dX12_side_203 ?_
      refine ev_iload (pc := 206) (i := 7) rfl dX12_side_206 ?_
      refine ev_iconst (pc := 208) (v := 4) (by decide) dX12_side_208 ?_
      refine ev_iadd (pc := 209)  dX12_side_209 ?_
      obtain ⟨g64, h65⟩ := qk_el h63; clear h63
      obtain ⟨g66, h67⟩ := qk_el h65; clear h65
      obtain ⟨x68, e69, h70⟩ := qv_el h67; clear h67
      refine yv_iald (pc := 210) (isb_el g64) (inb_el g66) e69 dX12_side_210 ?_
      refine ev_iload (pc := 211) (i := 5) rfl dX12_side_211 ?_
      refine ev_ic_ne (pc := 213) (tgt := 220) (by decide) dX12_side_213 (fun c71 => ?_) (fun c71 => ?_)
      · replace h70 := qi_f h70 c71
        refine ev_iconst (pc := 220) (v := 0) (by decide) dX12_side_220 ?_
        exact ev_ireturn (pc := 221) rfl (nar_int _) (qRI_eq h70) dX12_side_221
      · replace h70 := qi_t h70 c71
        refine ev_iconst (pc := 216) (v := 2) (by decide) dX12_side_216 ?_
        refine ev_goto (pc := 217) (tgt := 221) (by decide) dX12_side_217 ?_
        exact ev_ireturn (pc := 221) rfl (nar_int _) (qRI_eq h70) dX12_side_221
theorem e_X12_side_132 {X : gk_X} {F : Nat} {l9 : Int32} {l10 : Int32} {S : gk_S} {r : (Int32 × gk_S)} (h0 : f_X12_side_132 F l9 l10 S = some r) : EvW X m_X12_side 1 0 0 132 [none, none, none, none, none, none, none, none, none, some (.int l9), some (.int l10)] [] S (qRI r) := by
  unfold f_X12_side_132 at h0
  refine ev_iload (pc := 132) (i := 10) rfl dX12_side_132 ?_
  refine ev_if_ne (pc := 134) (tgt := 146) (by decide) dX12_side_134 (fun c115 => ?_) (fun c115 => ?_)
  · replace h0 := qi_f h0 c115
    refine ev_iconst (pc := 146) (v := 0) (by decide) dX12_side_146 ?_
    exact ev_ireturn (pc := 147) rfl (nar_int _) (qRI_eq h0) dX12_side_147
  · replace h0 := qi_t h0 c115
    refine ev_iload (pc := 137) (i := 9) rfl dX12_side_137 ?_
    refine ev_if_eq (pc := 139) (tgt := 146) (by decide) dX12_side_139 (fun c117 => ?_) (fun c117 => ?_)
    · replace h0 := qi_t h0 c117
      refine ev_iconst (pc := 146) (v := 0) (by decide) dX12_side_146 ?_
      exact ev_ireturn (pc := 147) rfl (nar_int _) (qRI_eq h0) dX12_side_147
    · replace h0 := qi_f h0 c117
      refine ev_iconst (pc := 142) (v := 2) (by decide) dX12_side_142 ?_
      refine ev_goto (pc := 143) (tgt := 147) (by decide) dX12_side_143 ?_
      exact ev_ireturn (pc := 147) rfl (nar_int _) (qRI_eq h0) dX12_side_147
theorem e_X12_side_85 {X : gk_X} {F : Nat} {l0 : Nat} {l2 : Int32} {l5 : Int32} {l6 : Int32} {l7 : Int32} {l8 : Int32} {s0 : Int32} {S : gk_S} {r : (Int32 × gk_S)} (h0 : f_X12_side_85 F l0 l2 l5 l6 l7 l8 s0 S = some r) : EvW X m_X12_side 1 0 0 85 [some (.ref l0), none, some (.int l2), none, none, some (.int l5), some (.int l6), some (.int l7), some (.int l8), none, none] [.int s0] S (qRI r) := by
  unfold f_X12_side_85 at h0
  refine ev_istore (pc := 85) (L' := [some (.ref l0), none, some (.int l2), none, none, some (.int l5), some (.int l6), some (.int l7), some (.int l8), some (.int s0), none]) (i := 9) (by decide) rfl rfl dX12_side_85 ?_
  refine ev_iload_n (pc := 87) (i := 2) rfl rfl dX12_side_87 ?_
  refine ev_iconst (pc := 88) (v := 1) (by decide) dX12_side_88 ?_
  refine ev_ic_ne (pc := 89) (tgt := 148) (by decide) dX12_side_89 (fun c41 => ?_) (fun c41 => ?_)
  · replace h0 := qi_f h0 c41
    refine ev_iload (pc := 148) (i := 8) rfl dX12_side_148 ?_
    refine ev_if_eq (pc := 150) (tgt := 183) (by decide) dX12_side_150 (fun c43 => ?_) (fun c43 => ?_)
    · replace h0 := qi_t h0 c43
      exact ev_weak (qL_s (qL_n (qL_n (qL_n (qL_n (qL_s (qL_s (qL_s (qL_n (qL_s (qL_n qL_nil))))))))))) (e_X12_side_183 h0)
    · replace h0 := qi_f h0 c43
      refine ev_aload_n (pc := 153) (i := 0) rfl rfl rfl dX12_side_153 ?_
      obtain ⟨g73, h74⟩ := qk_el h0; clear h0
      obtain ⟨b75, e76, h77⟩ := qP_el h74; clear h74
      refine xv_getP (pc := 154) fn_931 (isb_el g73) e76 gw_1171 dX12_side_154 ?_
      refine ev_iload (pc := 157) (i := 7) rfl dX12_side_157 ?_
      refine ev_iconst (pc := 159) (v := 3) (by decide) dX12_side_159 ?_
      refine ev_iadd (pc := 160)  dX12_side_160 ?_
      obtain ⟨g78, h79⟩ := qk_el h77; clear h77
      obtain ⟨g80, h81⟩ := qk_el h79; clear h79
      obtain ⟨x82, e83, h84⟩ := qv_el h81; clear h81
      refine yv_iald (pc := 161) (isb_el g78) (inb_el g80) e83 dX12_side_161 ?_
      refine ev_iload (pc := 162) (i := 5) rfl dX12_side_162 ?_
      refine ev_ic_ne (pc := 164) (tgt := 183) (by decide) dX12_side_164 (fun c85 => ?_) (fun c85 => ?_)
      · replace h84 := qi_f h84 c85
        exact ev_weak (qL_s (qL_n (qL_n (qL_n (qL_n (qL_s (qL_s (qL_s (qL_n (qL_s (qL_n qL_nil))))))))))) (e_X12_side_183 h84)
      · replace h84 := qi_t h84 c85
        refine ev_aload_n (pc := 167) (i := 0) rfl rfl rfl dX12_side_167 ?_
        obtain ⟨b87, e88, h89⟩ := qP_el h84; clear h84
        refine xv_getP (pc := 168) fn_931 (isb_el g73) e88 gw_1171 dX12_side_168 ?_
        refine ev_iload (pc := 171) (i := 7) rfl dX12_side_171 ?_
        refine ev_iconst (pc := 173) (v := 4) (by decide) dX12_side_173 ?_
        refine ev_iadd (pc := 174)  dX12_side_174 ?_
        obtain ⟨g90, h91⟩ := qk_el h89; clear h89
        obtain ⟨g92, h93⟩ := qk_el h91; clear h91
        obtain ⟨x94, e95, h96⟩ := qv_el h93; clear h93
        refine yv_iald (pc := 175) (isb_el g90) (inb_el g92) e95 dX12_side_175 ?_
        refine ev_iload (pc := 176) (i := 6) rfl dX12_side_176 ?_
        refine ev_ic_ne (pc := 178) (tgt := 183) (by decide) dX12_side_178 (fun c97 => ?_) (fun c97 => ?_)
        · replace h96 := qi_f h96 c97
          exact ev_weak (qL_s (qL_n (qL_n (qL_n (qL_n (qL_s (qL_s (qL_s (qL_n (qL_s (qL_n qL_nil))))))))))) (e_X12_side_183 h96)
        · replace h96 := qi_t h96 c97
          refine ev_iconst (pc := 181) (v := 1) (by decide) dX12_side_181 ?_
          exact ev_ireturn (pc := 182) rfl (nar_int _) (qRI_eq h96) dX12_side_182
  · replace h0 := qi_t h0 c41
    refine ev_aload_n (pc := 92) (i := 0) rfl rfl rfl dX12_side_92 ?_
    obtain ⟨g99, h100⟩ := qk_el h0; clear h0
    obtain ⟨b101, e102, h103⟩ := qP_el h100; clear h100
    refine xv_getP (pc := 93) fn_931 (isb_el g99) e102 gw_1171 dX12_side_93 ?_
    refine ev_iload (pc := 96) (i := 7) rfl dX12_side_96 ?_
    refine ev_iconst (pc := 98) (v := 4) (by decide) dX12_side_98 ?_
    refine ev_iadd (pc := 99)  dX12_side_99 ?_
    obtain ⟨g104, h105⟩ := qk_el h103; clear h103
    obtain ⟨g106, h107⟩ := qk_el h105; clear h105
    obtain ⟨x108, e109, h110⟩ := qv_el h107; clear h107
    refine yv_iald (pc := 100) (isb_el g104) (inb_el g106) e109 dX12_side_100 ?_
    refine ev_iload (pc := 101) (i := 6) rfl dX12_side_101 ?_
    refine ev_ic_eq (pc := 103) (tgt := 108) (by decide) dX12_side_103 (fun c111 => ?_) (fun c111 => ?_)
    · replace h110 := qi_t h110 c111
      refine ev_iload (pc := 108) (i := 5) rfl dX12_side_108 ?_
      refine ev_sipush (pc := 110) (v := 256) (by decide) dX12_side_110 ?_
      refine ev_idiv (pc := 113) (by decide) dX12_side_113 ?_
      refine ev_istore (pc := 114) (L' := [some (.ref l0), none, some (.int l2), none, none, some (.int l5), some (.int l6), some (.int l7), some (.int l8), some (.int s0), some (.int (l5 / 256))]) (i := 10) (by decide) rfl rfl dX12_side_114 ?_
      refine ev_iload (pc := 116) (i := 10) rfl dX12_side_116 ?_
      refine ev_bipush (pc := 118) (v := 8) (by decide) dX12_side_118 ?_
      refine ev_ic_ne (pc := 120) (tgt := 132) (by decide) dX12_side_120 (fun c113 => ?_) (fun c113 => ?_)
      · replace h110 := qi_f h110 c113
        exact ev_weak (qL_n (qL_n (qL_n (qL_n (qL_n (qL_n (qL_n (qL_n (qL_n (qL_s (qL_s qL_nil))))))))))) (e_X12_side_132 h110)
      · replace h110 := qi_t h110 c113
        refine ev_iload (pc := 123) (i := 8) rfl dX12_side_123 ?_
        refine ev_if_eq (pc := 125) (tgt := 132) (by decide) dX12_side_125 (fun c119 => ?_) (fun c119 => ?_)
        · replace h110 := qi_t h110 c119
          exact ev_weak (qL_n (qL_n (qL_n (qL_n (qL_n (qL_n (qL_n (qL_n (qL_n (qL_s (qL_s qL_nil))))))))))) (e_X12_side_132 h110)
        · replace h110 := qi_f h110 c119
          refine ev_iconst (pc := 128) (v := 1) (by decide) dX12_side_128 ?_
          refine ev_goto (pc := 129) (tgt := 147) (by decide) dX12_side_129 ?_
          exact ev_ireturn (pc := 147) rfl (nar_int _) (qRI_eq h110) dX12_side_147
    · replace h110 := qi_f h110 c111
      refine ev_iconst (pc := 106) (v := 0) (by decide) dX12_side_106 ?_
      exact ev_ireturn (pc := 107) rfl (nar_int _) (qRI_eq h110) dX12_side_107
theorem e_X12_side_51 {X : gk_X} {F : Nat} {l0 : Nat} {l2 : Int32} {l3 : Int32} {l4 : Int32} {l5 : Int32} {l6 : Int32} {l7 : Int32} {s0 : Int32} {S : gk_S} {r : (Int32 × gk_S)} (h0 : f_X12_side_51 F l0 l2 l3 l4 l5 l6 l7 s0 S = some r) : EvW X m_X12_side 1 0 0 51 [some (.ref l0), none, some (.int l2), some (.int l3), some (.int l4), some (.int l5), some (.int l6), some (.int l7), none, none, none] [.int s0] S (qRI r) := by
  unfold f_X12_side_51 at h0
  refine ev_istore (pc := 51) (L' := [some (.ref l0), none, some (.int l2), some (.int l3), some (.int l4), some (.int l5), some (.int l6), some (.int l7), some (.int s0), none, none]) (i := 8) (by decide) rfl rfl dX12_side_51 ?_
  refine ev_aload_n (pc := 53) (i := 0) rfl rfl rfl dX12_side_53 ?_
  obtain ⟨g27, h28⟩ := qk_el h0; clear h0
  obtain ⟨b29, e30, h31⟩ := qP_el h28; clear h28
  refine xv_getP (pc := 54) fn_931 (isb_el g27) e30 gw_1171 dX12_side_54 ?_
  refine ev_iload (pc := 57) (i := 7) rfl dX12_side_57 ?_
  refine ev_iconst (pc := 59) (v := 1) (by decide) dX12_side_59 ?_
  refine ev_iadd (pc := 60)  dX12_side_60 ?_
  obtain ⟨g32, h33⟩ := qk_el h31; clear h31
  obtain ⟨g34, h35⟩ := qk_el h33; clear h33
  obtain ⟨x36, e37, h38⟩ := qv_el h35; clear h35
  refine yv_iald (pc := 61) (isb_el g32) (inb_el g34) e37 dX12_side_61 ?_
  refine ev_iload (pc := 62) (i := 4) rfl dX12_side_62 ?_
  refine ev_ic_ne (pc := 64) (tgt := 84) (by decide) dX12_side_64 (fun c39 => ?_) (fun c39 => ?_)
  · replace h38 := qi_f h38 c39
    refine ev_iconst (pc := 84) (v := 0) (by decide) dX12_side_84 ?_
    exact ev_weak (qL_s (qL_n (qL_s (qL_n (qL_n (qL_s (qL_s (qL_s (qL_s (qL_n (qL_n qL_nil))))))))))) (e_X12_side_85 h38)
  · replace h38 := qi_t h38 c39
    refine ev_aload_n (pc := 67) (i := 0) rfl rfl rfl dX12_side_67 ?_
    obtain ⟨b121, e122, h123⟩ := qP_el h38; clear h38
    refine xv_getP (pc := 68) fn_931 (isb_el g27) e122 gw_1171 dX12_side_68 ?_
    refine ev_iload (pc := 71) (i := 7) rfl dX12_side_71 ?_
    refine ev_iconst (pc := 73) (v := 2) (by decide) dX12_side_73 ?_
    refine ev_iadd (pc := 74)  dX12_side_74 ?_
    obtain ⟨g124, h125⟩ := qk_el h123; clear h123
    obtain ⟨g126, h127⟩ := qk_el h125; clear h125
    obtain ⟨x128, e129, h130⟩ := qv_el h127; clear h127
    refine yv_iald (pc := 75) (isb_el g124) (inb_el g126) e129 dX12_side_75 ?_
    refine ev_iload_n (pc := 76) (i := 3) rfl rfl dX12_side_76 ?_
    refine ev_ic_ne (pc := 77) (tgt := 84) (by decide) dX12_side_77 (fun c131 => ?_) (fun c131 => ?_)
    · replace h130 := qi_f h130 c131
      refine ev_iconst (pc := 84) (v := 0) (by decide) dX12_side_84 ?_
      exact ev_weak (qL_s (qL_n (qL_s (qL_n (qL_n (qL_s (qL_s (qL_s (qL_s (qL_n (qL_n qL_nil))))))))))) (e_X12_side_85 h130)
    · replace h130 := qi_t h130 c131
      refine ev_iconst (pc := 80) (v := 1) (by decide) dX12_side_80 ?_
      refine ev_goto (pc := 81) (tgt := 85) (by decide) dX12_side_81 ?_
      exact ev_weak (qL_s (qL_n (qL_s (qL_n (qL_n (qL_s (qL_s (qL_s (qL_s (qL_n (qL_n qL_nil))))))))))) (e_X12_side_85 h130)
theorem e_X12_side {X : gk_X} {F : Nat} {S : gk_S} {a : Nat} {p0 : Int32} {p1 : Int32} {p2 : Int32} {p3 : Int32} {p4 : Int32} {p5 : Int32} {r : (Int32 × gk_S)} (h0 : f_X12_side F S a p0 p1 p2 p3 p4 p5 = some r) : EvM X m_X12_side 1 0 0 [.ref a, .int p0, .int p1, .int p2, .int p3, .int p4, .int p5] S (qRI r) := by
  unfold f_X12_side at h0
  refine ev_method (by decide +kernel) rfl rfl (Nat.le_of_ble_eq_true rfl) ?_
  show EvW X m_X12_side 1 0 0 0 [some (.ref a), some (.int p0), some (.int p1), some (.int p2), some (.int p3), some (.int p4), some (.int p5), none, none, none, none] [] S _
  refine ev_bipush (pc := 0) (v := 9) (by decide) dX12_side_0 ?_
  refine ev_iload_n (pc := 2) (i := 1) rfl rfl dX12_side_2 ?_
  refine ev_imul (pc := 3)  dX12_side_3 ?_
  refine ev_istore (pc := 4) (L' := [some (.ref a), some (.int p0), some (.int p1), some (.int p2), some (.int p3), some (.int p4), some (.int p5), some (.int (9 * p0)), none, none, none]) (i := 7) (by decide) rfl rfl dX12_side_4 ?_
  refine ev_aload_n (pc := 6) (i := 0) rfl rfl rfl dX12_side_6 ?_
  obtain ⟨g1, h2⟩ := qk_el h0; clear h0
  obtain ⟨b3, e4, h5⟩ := qP_el h2; clear h2
  refine xv_getP (pc := 7) fn_931 (isb_el g1) e4 gw_1171 dX12_side_7 ?_
  refine ev_iload (pc := 10) (i := 7) rfl dX12_side_10 ?_
  obtain ⟨g6, h7⟩ := qk_el h5; clear h5
  obtain ⟨g8, h9⟩ := qk_el h7; clear h7
  obtain ⟨x10, e11, h12⟩ := qv_el h9; clear h9
  refine yv_iald (pc := 12) (isb_el g6) (inb_el g8) e11 dX12_side_12 ?_
  refine ev_iload_n (pc := 13) (i := 2) rfl rfl dX12_side_13 ?_
  refine ev_ic_eq (pc := 14) (tgt := 19) (by decide) dX12_side_14 (fun c13 => ?_) (fun c13 => ?_)
  · replace h12 := qi_t h12 c13
    refine ev_aload_n (pc := 19) (i := 0) rfl rfl rfl dX12_side_19 ?_
    obtain ⟨b15, e16, h17⟩ := qP_el h12; clear h12
    refine xv_getP (pc := 20) fn_931 (isb_el g1) e16 gw_1171 dX12_side_20 ?_
    refine ev_iload (pc := 23) (i := 7) rfl dX12_side_23 ?_
    refine ev_iconst (pc := 25) (v := 1) (by decide) dX12_side_25 ?_
    refine ev_iadd (pc := 26)  dX12_side_26 ?_
    obtain ⟨g18, h19⟩ := qk_el h17; clear h17
    obtain ⟨g20, h21⟩ := qk_el h19; clear h19
    obtain ⟨x22, e23, h24⟩ := qv_el h21; clear h21
    refine yv_iald (pc := 27) (isb_el g18) (inb_el g20) e23 dX12_side_27 ?_
    refine ev_iload_n (pc := 28) (i := 3) rfl rfl dX12_side_28 ?_
    refine ev_ic_ne (pc := 29) (tgt := 50) (by decide) dX12_side_29 (fun c25 => ?_) (fun c25 => ?_)
    · replace h24 := qi_f h24 c25
      refine ev_iconst (pc := 50) (v := 0) (by decide) dX12_side_50 ?_
      exact ev_weak (qL_s (qL_n (qL_s (qL_s (qL_s (qL_s (qL_s (qL_s (qL_n (qL_n (qL_n qL_nil))))))))))) (e_X12_side_51 h24)
    · replace h24 := qi_t h24 c25
      refine ev_aload_n (pc := 32) (i := 0) rfl rfl rfl dX12_side_32 ?_
      obtain ⟨b133, e134, h135⟩ := qP_el h24; clear h24
      refine xv_getP (pc := 33) fn_931 (isb_el g1) e134 gw_1171 dX12_side_33 ?_
      refine ev_iload (pc := 36) (i := 7) rfl dX12_side_36 ?_
      refine ev_iconst (pc := 38) (v := 2) (by decide) dX12_side_38 ?_
      refine ev_iadd (pc := 39)  dX12_side_39 ?_
      obtain ⟨g136, h137⟩ := qk_el h135; clear h135
      obtain ⟨g138, h139⟩ := qk_el h137; clear h137
      obtain ⟨x140, e141, h142⟩ := qv_el h139; clear h139
      refine yv_iald (pc := 40) (isb_el g136) (inb_el g138) e141 dX12_side_40 ?_
      refine ev_iload (pc := 41) (i := 4) rfl dX12_side_41 ?_
      refine ev_ic_ne (pc := 43) (tgt := 50) (by decide) dX12_side_43 (fun c143 => ?_) (fun c143 => ?_)
      · replace h142 := qi_f h142 c143
        refine ev_iconst (pc := 50) (v := 0) (by decide) dX12_side_50 ?_
        exact ev_weak (qL_s (qL_n (qL_s (qL_s (qL_s (qL_s (qL_s (qL_s (qL_n (qL_n (qL_n qL_nil))))))))))) (e_X12_side_51 h142)
      · replace h142 := qi_t h142 c143
        refine ev_iconst (pc := 46) (v := 1) (by decide) dX12_side_46 ?_
        refine ev_goto (pc := 47) (tgt := 51) (by decide) dX12_side_47 ?_
        exact ev_weak (qL_s (qL_n (qL_s (qL_s (qL_s (qL_s (qL_s (qL_s (qL_n (qL_n (qL_n qL_nil))))))))))) (e_X12_side_51 h142)
  · replace h12 := qi_f h12 c13
    refine ev_iconst (pc := 17) (v := 0) (by decide) dX12_side_17 ?_
    exact ev_ireturn (pc := 18) rfl (nar_int _) (qRI_eq h12) dX12_side_18
theorem dX12_find_0 : decode cX12_find 0 = .ok (.iconst 0, 1) := by decide +kernel
theorem dX12_find_1 : decode cX12_find 1 = .ok (.istore 6, 2) := by decide +kernel
theorem dX12_find_3 : decode cX12_find 3 = .ok (.iload 6, 2) := by decide +kernel
theorem dX12_find_5 : decode cX12_find 5 = .ok (.aload_n 0, 1) := by decide +kernel
theorem dX12_find_6 : decode cX12_find 6 = .ok (.getfield 340, 3) := by decide +kernel
theorem dX12_find_9 : decode cX12_find 9 = .ok (.if_icmp .ge 36, 3) := by decide +kernel
theorem dX12_find_12 : decode cX12_find 12 = .ok (.aload_n 0, 1) := by decide +kernel
theorem dX12_find_13 : decode cX12_find 13 = .ok (.aload_n 0, 1) := by decide +kernel
theorem dX12_find_14 : decode cX12_find 14 = .ok (.iload 6, 2) := by decide +kernel
theorem dX12_find_16 : decode cX12_find 16 = .ok (.iload_n 1, 1) := by decide +kernel
theorem dX12_find_17 : decode cX12_find 17 = .ok (.iload_n 2, 1) := by decide +kernel
theorem dX12_find_18 : decode cX12_find 18 = .ok (.iload_n 3, 1) := by decide +kernel
theorem dX12_find_19 : decode cX12_find 19 = .ok (.iload 4, 2) := by decide +kernel
theorem dX12_find_21 : decode cX12_find 21 = .ok (.iload 5, 2) := by decide +kernel
theorem dX12_find_23 : decode cX12_find 23 = .ok (.invokevirtual 350, 3) := by decide +kernel
theorem dX12_find_26 : decode cX12_find 26 = .ok (.putfield 354, 3) := by decide +kernel
theorem dX12_find_29 : decode cX12_find 29 = .ok (.aload_n 0, 1) := by decide +kernel
theorem dX12_find_30 : decode cX12_find 30 = .ok (.getfield 354, 3) := by decide +kernel
theorem dX12_find_33 : decode cX12_find 33 = .ok (.ifCond .le 6, 3) := by decide +kernel
theorem dX12_find_36 : decode cX12_find 36 = .ok (.iload 6, 2) := by decide +kernel
theorem dX12_find_38 : decode cX12_find 38 = .ok (.ireturn, 1) := by decide +kernel
theorem dX12_find_39 : decode cX12_find 39 = .ok (.iinc 6 1, 3) := by decide +kernel
theorem dX12_find_42 : decode cX12_find 42 = .ok (.goto (-39), 3) := by decide +kernel
theorem dX12_find_45 : decode cX12_find 45 = .ok (.aload_n 0, 1) := by decide +kernel
theorem dX12_find_46 : decode cX12_find 46 = .ok (.iconst 0, 1) := by decide +kernel
theorem dX12_find_47 : decode cX12_find 47 = .ok (.putfield 354, 3) := by decide +kernel
theorem dX12_find_50 : decode cX12_find 50 = .ok (.iconst (-1), 1) := by decide +kernel
theorem dX12_find_51 : decode cX12_find 51 = .ok (.ireturn, 1) := by decide +kernel
theorem e_X12_find_3 {X : gk_X} {F : Nat} : ∀ (n : Nat) (l0 : Nat) (l1 : Int32) (l2 : Int32) (l3 : Int32) (l4 : Int32) (l5 : Int32) (l6 : Int32) (S : gk_S) (r : (Int32 × gk_S)), f_X12_find_3 F n l0 l1 l2 l3 l4 l5 l6 S = some r → EvW X m_X12_find 2 0 0 3 [some (.ref l0), some (.int l1), some (.int l2), some (.int l3), some (.int l4), some (.int l5), some (.int l6)] [] S (qRI r) := by
  intro n
  induction n with
  | zero => intro l0 l1 l2 l3 l4 l5 l6 S r h0; rw [f_X12_find_3] at h0; cases h0
  | succ n ih =>
    intro l0 l1 l2 l3 l4 l5 l6 S r h0; rw [f_X12_find_3] at h0
    refine ev_iload (pc := 3) (i := 6) rfl dX12_find_3 ?_
    refine ev_aload_n (pc := 5) (i := 0) rfl rfl rfl dX12_find_5 ?_
    obtain ⟨g1, h2⟩ := qk_el h0; clear h0
    obtain ⟨x3, e4, h5⟩ := qv_el h2; clear h2
    refine xv_getIv (pc := 6) fn_932 (isb_el g1) e4 gw_1172 dX12_find_6 ?_
    refine ev_ic_ge (pc := 9) (tgt := 45) (by decide) dX12_find_9 (fun c6 => ?_) (fun c6 => ?_)
    · replace h5 := qi_t h5 c6
      refine ev_aload_n (pc := 45) (i := 0) rfl rfl rfl dX12_find_45 ?_
      refine ev_iconst (pc := 46) (v := 0) (by decide) dX12_find_46 ?_
      obtain ⟨S8, e9, h10⟩ := qv_el h5; clear h5
      refine yv_putI (pc := 47) fn_938 ⟨rfl, rfl⟩ (isb_el g1) e9 gw_1178 dX12_find_47 ?_
      refine ev_iconst (pc := 50) (v := -1) (by decide) dX12_find_50 ?_
      exact ev_ireturn (pc := 51) rfl (nar_int _) (qRI_eq h10) dX12_find_51
    · replace h5 := qi_f h5 c6
      refine ev_aload_n (pc := 12) (i := 0) rfl rfl rfl dX12_find_12 ?_
      refine ev_aload_n (pc := 13) (i := 0) rfl rfl rfl dX12_find_13 ?_
      refine ev_iload (pc := 14) (i := 6) rfl dX12_find_14 ?_
      refine ev_iload_n (pc := 16) (i := 1) rfl rfl dX12_find_16 ?_
      refine ev_iload_n (pc := 17) (i := 2) rfl rfl dX12_find_17 ?_
      refine ev_iload_n (pc := 18) (i := 3) rfl rfl dX12_find_18 ?_
      refine ev_iload (pc := 19) (i := 4) rfl dX12_find_19 ?_
      refine ev_iload (pc := 21) (i := 5) rfl dX12_find_21 ?_
      obtain ⟨x11, S12, e13, h14⟩ := qc_el h5; clear h5
      refine xv_callV (pc := 23) (st := [.ref l0]) (as := [.int l6, .int l1, .int l2, .int l3, .int l4, .int l5]) (v := (some (.int x11))) (S' := S12) ok_X12_side (e_X12_side e13) (isb_el g1) (by decide) rfl (Nat.le_of_ble_eq_true rfl) rfl gw_1556 dX12_find_23 ?_
      obtain ⟨g15, h16⟩ := qk_el h14; clear h14
      obtain ⟨S17, e18, h19⟩ := qv_el h16; clear h16
      refine yv_putI (pc := 26) fn_938 ⟨rfl, rfl⟩ (isb_el g15) e18 gw_1178 dX12_find_26 ?_
      refine ev_aload_n (pc := 29) (i := 0) rfl rfl rfl dX12_find_29 ?_
      obtain ⟨x20, e21, h22⟩ := qv_el h19; clear h19
      refine xv_getIv (pc := 30) fn_938 (is_sI (isb_el g15) e18) e21 gw_1178 dX12_find_30 ?_
      refine ev_if_le (pc := 33) (tgt := 39) (by decide) dX12_find_33 (fun c23 => ?_) (fun c23 => ?_)
      · replace h22 := qi_t h22 c23
        refine ev_iinc (pc := 39) (L' := [some (.ref l0), some (.int l1), some (.int l2), some (.int l3), some (.int l4), some (.int l5), some (.int (l6 + 1))]) (i := 6) (v := (l6 + 1)) rfl rfl (by decide) rfl rfl dX12_find_39 ?_
        refine ev_goto (pc := 42) (tgt := 3) (by decide) dX12_find_42 ?_
        exact (ev_weak (qL_s (qL_s (qL_s (qL_s (qL_s (qL_s (qL_s qL_nil))))))) (ih _ _ _ _ _ _ _ _ _ h22))
      · replace h22 := qi_f h22 c23
        refine ev_iload (pc := 36) (i := 6) rfl dX12_find_36 ?_
        exact ev_ireturn (pc := 38) rfl (nar_int _) (qRI_eq h22) dX12_find_38
theorem e_X12_find {X : gk_X} {F : Nat} {S : gk_S} {a : Nat} {p0 : Int32} {p1 : Int32} {p2 : Int32} {p3 : Int32} {p4 : Int32} {r : (Int32 × gk_S)} (h0 : f_X12_find F S a p0 p1 p2 p3 p4 = some r) : EvM X m_X12_find 2 0 0 [.ref a, .int p0, .int p1, .int p2, .int p3, .int p4] S (qRI r) := by
  unfold f_X12_find at h0
  refine ev_method (by decide +kernel) rfl rfl (Nat.le_of_ble_eq_true rfl) ?_
  show EvW X m_X12_find 2 0 0 0 [some (.ref a), some (.int p0), some (.int p1), some (.int p2), some (.int p3), some (.int p4), none] [] S _
  refine ev_iconst (pc := 0) (v := 0) (by decide) dX12_find_0 ?_
  refine ev_istore (pc := 1) (L' := [some (.ref a), some (.int p0), some (.int p1), some (.int p2), some (.int p3), some (.int p4), some (.int 0)]) (i := 6) (by decide) rfl rfl dX12_find_1 ?_
  exact ev_weak (qL_s (qL_s (qL_s (qL_s (qL_s (qL_s (qL_s qL_nil))))))) (e_X12_find_3 F _ _ _ _ _ _ _ _ _ h0)
theorem dX12_letter_0 : decode cX12_letter 0 = .ok (.iload_n 0, 1) := by decide +kernel
theorem dX12_letter_1 : decode cX12_letter 1 = .ok (.iconst 2, 1) := by decide +kernel
theorem dX12_letter_2 : decode cX12_letter 2 = .ok (.iand, 1) := by decide +kernel
theorem dX12_letter_3 : decode cX12_letter 3 = .ok (.ifCond .le 7, 3) := by decide +kernel
theorem dX12_letter_6 : decode cX12_letter 6 = .ok (.iconst 1, 1) := by decide +kernel
theorem dX12_letter_7 : decode cX12_letter 7 = .ok (.goto 4, 3) := by decide +kernel
theorem dX12_letter_10 : decode cX12_letter 10 = .ok (.iconst 0, 1) := by decide +kernel
theorem dX12_letter_11 : decode cX12_letter 11 = .ok (.istore_n 1, 1) := by decide +kernel
theorem dX12_letter_12 : decode cX12_letter 12 = .ok (.iload_n 0, 1) := by decide +kernel
theorem dX12_letter_13 : decode cX12_letter 13 = .ok (.bipush 16, 2) := by decide +kernel
theorem dX12_letter_15 : decode cX12_letter 15 = .ok (.iand, 1) := by decide +kernel
theorem dX12_letter_16 : decode cX12_letter 16 = .ok (.ifCond .le 7, 3) := by decide +kernel
theorem dX12_letter_19 : decode cX12_letter 19 = .ok (.iconst 1, 1) := by decide +kernel
theorem dX12_letter_20 : decode cX12_letter 20 = .ok (.goto 4, 3) := by decide +kernel
theorem dX12_letter_23 : decode cX12_letter 23 = .ok (.iconst 0, 1) := by decide +kernel
theorem dX12_letter_24 : decode cX12_letter 24 = .ok (.istore_n 2, 1) := by decide +kernel
theorem dX12_letter_25 : decode cX12_letter 25 = .ok (.iload_n 0, 1) := by decide +kernel
theorem dX12_letter_26 : decode cX12_letter 26 = .ok (.iconst 4, 1) := by decide +kernel
theorem dX12_letter_27 : decode cX12_letter 27 = .ok (.iand, 1) := by decide +kernel
theorem dX12_letter_28 : decode cX12_letter 28 = .ok (.ifCond .le 6, 3) := by decide +kernel
theorem dX12_letter_31 : decode cX12_letter 31 = .ok (.bipush 82, 2) := by decide +kernel
theorem dX12_letter_33 : decode cX12_letter 33 = .ok (.ireturn, 1) := by decide +kernel
theorem dX12_letter_34 : decode cX12_letter 34 = .ok (.iload_n 1, 1) := by decide +kernel
theorem dX12_letter_35 : decode cX12_letter 35 = .ok (.ifCond .eq 15, 3) := by decide +kernel
theorem dX12_letter_38 : decode cX12_letter 38 = .ok (.iload_n 2, 1) := by decide +kernel
theorem dX12_letter_39 : decode cX12_letter 39 = .ok (.ifCond .eq 8, 3) := by decide +kernel
theorem dX12_letter_42 : decode cX12_letter 42 = .ok (.bipush 66, 2) := by decide +kernel
theorem dX12_letter_44 : decode cX12_letter 44 = .ok (.goto 5, 3) := by decide +kernel
theorem dX12_letter_47 : decode cX12_letter 47 = .ok (.bipush 83, 2) := by decide +kernel
theorem dX12_letter_49 : decode cX12_letter 49 = .ok (.ireturn, 1) := by decide +kernel
theorem dX12_letter_50 : decode cX12_letter 50 = .ok (.iload_n 0, 1) := by decide +kernel
theorem dX12_letter_51 : decode cX12_letter 51 = .ok (.iconst 1, 1) := by decide +kernel
theorem dX12_letter_52 : decode cX12_letter 52 = .ok (.iand, 1) := by decide +kernel
theorem dX12_letter_53 : decode cX12_letter 53 = .ok (.ifCond .le 8, 3) := by decide +kernel
theorem dX12_letter_56 : decode cX12_letter 56 = .ok (.bipush 70, 2) := by decide +kernel
theorem dX12_letter_58 : decode cX12_letter 58 = .ok (.goto 14, 3) := by decide +kernel
theorem dX12_letter_61 : decode cX12_letter 61 = .ok (.iload_n 2, 1) := by decide +kernel
theorem dX12_letter_62 : decode cX12_letter 62 = .ok (.ifCond .eq 8, 3) := by decide +kernel
theorem dX12_letter_65 : decode cX12_letter 65 = .ok (.bipush 65, 2) := by decide +kernel
theorem dX12_letter_67 : decode cX12_letter 67 = .ok (.goto 5, 3) := by decide +kernel
theorem dX12_letter_70 : decode cX12_letter 70 = .ok (.bipush 78, 2) := by decide +kernel
theorem dX12_letter_72 : decode cX12_letter 72 = .ok (.ireturn, 1) := by decide +kernel
theorem e_X12_letter_24 {X : gk_X} {F : Nat} {l0 : Int32} {l1 : Int32} {s0 : Int32} {S : gk_S} {r : (Int32 × gk_S)} (h0 : f_X12_letter_24 F l0 l1 s0 S = some r) : EvW X m_X12_letter 1 0 0 24 [some (.int l0), some (.int l1), none] [.int s0] S (qRI r) := by
  unfold f_X12_letter_24 at h0
  refine ev_istore_n (pc := 24) (L' := [some (.int l0), some (.int l1), some (.int s0)]) (i := 2) rfl (by decide) rfl rfl dX12_letter_24 ?_
  refine ev_iload_n (pc := 25) (i := 0) rfl rfl dX12_letter_25 ?_
  refine ev_iconst (pc := 26) (v := 4) (by decide) dX12_letter_26 ?_
  refine ev_iand (pc := 27)  dX12_letter_27 ?_
  refine ev_if_le (pc := 28) (tgt := 34) (by decide) dX12_letter_28 (fun c5 => ?_) (fun c5 => ?_)
  · replace h0 := qi_t h0 c5
    refine ev_iload_n (pc := 34) (i := 1) rfl rfl dX12_letter_34 ?_
    refine ev_if_eq (pc := 35) (tgt := 50) (by decide) dX12_letter_35 (fun c7 => ?_) (fun c7 => ?_)
    · replace h0 := qi_t h0 c7
      refine ev_iload_n (pc := 50) (i := 0) rfl rfl dX12_letter_50 ?_
      refine ev_iconst (pc := 51) (v := 1) (by decide) dX12_letter_51 ?_
      refine ev_iand (pc := 52)  dX12_letter_52 ?_
      refine ev_if_le (pc := 53) (tgt := 61) (by decide) dX12_letter_53 (fun c9 => ?_) (fun c9 => ?_)
      · replace h0 := qi_t h0 c9
        refine ev_iload_n (pc := 61) (i := 2) rfl rfl dX12_letter_61 ?_
        refine ev_if_eq (pc := 62) (tgt := 70) (by decide) dX12_letter_62 (fun c11 => ?_) (fun c11 => ?_)
        · replace h0 := qi_t h0 c11
          refine ev_bipush (pc := 70) (v := 78) (by decide) dX12_letter_70 ?_
          exact ev_ireturn (pc := 72) rfl (nar_int _) (qRI_eq h0) dX12_letter_72
        · replace h0 := qi_f h0 c11
          refine ev_bipush (pc := 65) (v := 65) (by decide) dX12_letter_65 ?_
          refine ev_goto (pc := 67) (tgt := 72) (by decide) dX12_letter_67 ?_
          exact ev_ireturn (pc := 72) rfl (nar_int _) (qRI_eq h0) dX12_letter_72
      · replace h0 := qi_f h0 c9
        refine ev_bipush (pc := 56) (v := 70) (by decide) dX12_letter_56 ?_
        refine ev_goto (pc := 58) (tgt := 72) (by decide) dX12_letter_58 ?_
        exact ev_ireturn (pc := 72) rfl (nar_int _) (qRI_eq h0) dX12_letter_72
    · replace h0 := qi_f h0 c7
      refine ev_iload_n (pc := 38) (i := 2) rfl rfl dX12_letter_38 ?_
      refine ev_if_eq (pc := 39) (tgt := 47) (by decide) dX12_letter_39 (fun c13 => ?_) (fun c13 => ?_)
      · replace h0 := qi_t h0 c13
        refine ev_bipush (pc := 47) (v := 83) (by decide) dX12_letter_47 ?_
        exact ev_ireturn (pc := 49) rfl (nar_int _) (qRI_eq h0) dX12_letter_49
      · replace h0 := qi_f h0 c13
        refine ev_bipush (pc := 42) (v := 66) (by decide) dX12_letter_42 ?_
        refine ev_goto (pc := 44) (tgt := 49) (by decide) dX12_letter_44 ?_
        exact ev_ireturn (pc := 49) rfl (nar_int _) (qRI_eq h0) dX12_letter_49
  · replace h0 := qi_f h0 c5
    refine ev_bipush (pc := 31) (v := 82) (by decide) dX12_letter_31 ?_
    exact ev_ireturn (pc := 33) rfl (nar_int _) (qRI_eq h0) dX12_letter_33
theorem e_X12_letter_11 {X : gk_X} {F : Nat} {l0 : Int32} {s0 : Int32} {S : gk_S} {r : (Int32 × gk_S)} (h0 : f_X12_letter_11 F l0 s0 S = some r) : EvW X m_X12_letter 1 0 0 11 [some (.int l0), none, none] [.int s0] S (qRI r) := by
  unfold f_X12_letter_11 at h0
  refine ev_istore_n (pc := 11) (L' := [some (.int l0), some (.int s0), none]) (i := 1) rfl (by decide) rfl rfl dX12_letter_11 ?_
  refine ev_iload_n (pc := 12) (i := 0) rfl rfl dX12_letter_12 ?_
  refine ev_bipush (pc := 13) (v := 16) (by decide) dX12_letter_13 ?_
  refine ev_iand (pc := 15)  dX12_letter_15 ?_
  refine ev_if_le (pc := 16) (tgt := 23) (by decide) dX12_letter_16 (fun c3 => ?_) (fun c3 => ?_)
  · replace h0 := qi_t h0 c3
    refine ev_iconst (pc := 23) (v := 0) (by decide) dX12_letter_23 ?_
    exact ev_weak (qL_s (qL_s (qL_n qL_nil))) (e_X12_letter_24 h0)
  · replace h0 := qi_f h0 c3
    refine ev_iconst (pc := 19) (v := 1) (by decide) dX12_letter_19 ?_
    refine ev_goto (pc := 20) (tgt := 24) (by decide) dX12_letter_20 ?_
    exact ev_weak (qL_s (qL_s (qL_n qL_nil))) (e_X12_letter_24 h0)
theorem e_X12_letter {X : gk_X} {F : Nat} {S : gk_S} {p0 : Int32} {r : (Int32 × gk_S)} (h0 : f_X12_letter F S p0 = some r) : EvM X m_X12_letter 1 0 0 [.int p0] S (qRI r) := by
  unfold f_X12_letter at h0
  refine ev_method (by decide +kernel) rfl rfl (Nat.le_of_ble_eq_true rfl) ?_
  show EvW X m_X12_letter 1 0 0 0 [some (.int p0), none, none] [] S _
  refine ev_iload_n (pc := 0) (i := 0) rfl rfl dX12_letter_0 ?_
  refine ev_iconst (pc := 1) (v := 2) (by decide) dX12_letter_1 ?_
  refine ev_iand (pc := 2)  dX12_letter_2 ?_
  refine ev_if_le (pc := 3) (tgt := 10) (by decide) dX12_letter_3 (fun c1 => ?_) (fun c1 => ?_)
  · replace h0 := qi_t h0 c1
    refine ev_iconst (pc := 10) (v := 0) (by decide) dX12_letter_10 ?_
    exact ev_weak (qL_s (qL_n (qL_n qL_nil))) (e_X12_letter_11 h0)
  · replace h0 := qi_f h0 c1
    refine ev_iconst (pc := 6) (v := 1) (by decide) dX12_letter_6 ?_
    refine ev_goto (pc := 7) (tgt := 11) (by decide) dX12_letter_7 ?_
    exact ev_weak (qL_s (qL_n (qL_n qL_nil))) (e_X12_letter_11 h0)
theorem dX12_phase_0 : decode cX12_phase 0 = .ok (.aload_n 0, 1) := by decide +kernel
theorem dX12_phase_1 : decode cX12_phase 1 = .ok (.getfield 87, 3) := by decide +kernel
theorem dX12_phase_4 : decode cX12_phase 4 = .ok (.bipush 9, 2) := by decide +kernel
theorem dX12_phase_6 : decode cX12_phase 6 = .ok (.iload_n 1, 1) := by decide +kernel
theorem dX12_phase_7 : decode cX12_phase 7 = .ok (.imul, 1) := by decide +kernel
theorem dX12_phase_8 : decode cX12_phase 8 = .ok (.iconst 5, 1) := by decide +kernel
theorem dX12_phase_9 : decode cX12_phase 9 = .ok (.iadd, 1) := by decide +kernel
theorem dX12_phase_10 : decode cX12_phase 10 = .ok (.iaload, 1) := by decide +kernel
theorem dX12_phase_11 : decode cX12_phase 11 = .ok (.istore 4, 2) := by decide +kernel
theorem dX12_phase_13 : decode cX12_phase 13 = .ok (.iload_n 2, 1) := by decide +kernel
theorem dX12_phase_14 : decode cX12_phase 14 = .ok (.iconst 1, 1) := by decide +kernel
theorem dX12_phase_15 : decode cX12_phase 15 = .ok (.if_icmp .ne 7, 3) := by decide +kernel
theorem dX12_phase_18 : decode cX12_phase 18 = .ok (.iconst 1, 1) := by decide +kernel
theorem dX12_phase_19 : decode cX12_phase 19 = .ok (.goto 4, 3) := by decide +kernel
theorem dX12_phase_22 : decode cX12_phase 22 = .ok (.iconst 0, 1) := by decide +kernel
theorem dX12_phase_23 : decode cX12_phase 23 = .ok (.istore 5, 2) := by decide +kernel
theorem dX12_phase_25 : decode cX12_phase 25 = .ok (.aload_n 0, 1) := by decide +kernel
theorem dX12_phase_26 : decode cX12_phase 26 = .ok (.getfield 87, 3) := by decide +kernel
theorem dX12_phase_29 : decode cX12_phase 29 = .ok (.bipush 9, 2) := by decide +kernel
theorem dX12_phase_31 : decode cX12_phase 31 = .ok (.iload_n 1, 1) := by decide +kernel
theorem dX12_phase_32 : decode cX12_phase 32 = .ok (.imul, 1) := by decide +kernel
theorem dX12_phase_33 : decode cX12_phase 33 = .ok (.bipush 7, 2) := by decide +kernel
theorem dX12_phase_35 : decode cX12_phase 35 = .ok (.iadd, 1) := by decide +kernel
theorem dX12_phase_36 : decode cX12_phase 36 = .ok (.iaload, 1) := by decide +kernel
theorem dX12_phase_37 : decode cX12_phase 37 = .ok (.iload_n 2, 1) := by decide +kernel
theorem dX12_phase_38 : decode cX12_phase 38 = .ok (.if_icmp .ne 7, 3) := by decide +kernel
theorem dX12_phase_41 : decode cX12_phase 41 = .ok (.iconst 1, 1) := by decide +kernel
theorem dX12_phase_42 : decode cX12_phase 42 = .ok (.goto 4, 3) := by decide +kernel
theorem dX12_phase_45 : decode cX12_phase 45 = .ok (.iconst 0, 1) := by decide +kernel
theorem dX12_phase_46 : decode cX12_phase 46 = .ok (.istore 6, 2) := by decide +kernel
theorem dX12_phase_48 : decode cX12_phase 48 = .ok (.iload 4, 2) := by decide +kernel
theorem dX12_phase_50 : decode cX12_phase 50 = .ok (.iconst 1, 1) := by decide +kernel
theorem dX12_phase_51 : decode cX12_phase 51 = .ok (.if_icmp .ne 45, 3) := by decide +kernel
theorem dX12_phase_54 : decode cX12_phase 54 = .ok (.iload 5, 2) := by decide +kernel
theorem dX12_phase_56 : decode cX12_phase 56 = .ok (.ifCond .eq 17, 3) := by decide +kernel
theorem dX12_phase_59 : decode cX12_phase 59 = .ok (.iload_n 3, 1) := by decide +kernel
theorem dX12_phase_60 : decode cX12_phase 60 = .ok (.bipush 83, 2) := by decide +kernel
theorem dX12_phase_62 : decode cX12_phase 62 = .ok (.if_icmp .ne 7, 3) := by decide +kernel
theorem dX12_phase_65 : decode cX12_phase 65 = .ok (.iconst 1, 1) := by decide +kernel
theorem dX12_phase_66 : decode cX12_phase 66 = .ok (.goto 29, 3) := by decide +kernel
theorem dX12_phase_69 : decode cX12_phase 69 = .ok (.iconst 0, 1) := by decide +kernel
theorem dX12_phase_70 : decode cX12_phase 70 = .ok (.goto 25, 3) := by decide +kernel
theorem dX12_phase_73 : decode cX12_phase 73 = .ok (.iload_n 3, 1) := by decide +kernel
theorem dX12_phase_74 : decode cX12_phase 74 = .ok (.bipush 66, 2) := by decide +kernel
theorem dX12_phase_76 : decode cX12_phase 76 = .ok (.if_icmp .ne 7, 3) := by decide +kernel
theorem dX12_phase_79 : decode cX12_phase 79 = .ok (.iconst 2, 1) := by decide +kernel
theorem dX12_phase_80 : decode cX12_phase 80 = .ok (.goto 15, 3) := by decide +kernel
theorem dX12_phase_83 : decode cX12_phase 83 = .ok (.iload_n 3, 1) := by decide +kernel
theorem dX12_phase_84 : decode cX12_phase 84 = .ok (.bipush 82, 2) := by decide +kernel
theorem dX12_phase_86 : decode cX12_phase 86 = .ok (.if_icmp .ne 8, 3) := by decide +kernel
theorem dX12_phase_89 : decode cX12_phase 89 = .ok (.bipush 7, 2) := by decide +kernel
theorem dX12_phase_91 : decode cX12_phase 91 = .ok (.goto 4, 3) := by decide +kernel
theorem dX12_phase_94 : decode cX12_phase 94 = .ok (.iconst 0, 1) := by decide +kernel
theorem dX12_phase_95 : decode cX12_phase 95 = .ok (.ireturn, 1) := by decide +kernel
theorem dX12_phase_96 : decode cX12_phase 96 = .ok (.iload 4, 2) := by decide +kernel
theorem dX12_phase_98 : decode cX12_phase 98 = .ok (.iconst 2, 1) := by decide +kernel
theorem dX12_phase_99 : decode cX12_phase 99 = .ok (.if_icmp .ne 61, 3) := by decide +kernel
theorem dX12_phase_102 : decode cX12_phase 102 = .ok (.iload_n 3, 1) := by decide +kernel
theorem dX12_phase_103 : decode cX12_phase 103 = .ok (.bipush 82, 2) := by decide +kernel
theorem dX12_phase_105 : decode cX12_phase 105 = .ok (.if_icmp .ne 6, 3) := by decide +kernel
theorem dX12_phase_108 : decode cX12_phase 108 = .ok (.bipush 7, 2) := by decide +kernel
theorem dX12_phase_110 : decode cX12_phase 110 = .ok (.ireturn, 1) := by decide +kernel
theorem dX12_phase_111 : decode cX12_phase 111 = .ok (.iload 5, 2) := by decide +kernel
theorem dX12_phase_113 : decode cX12_phase 113 = .ok (.ifCond .ne 15, 3) := by decide +kernel
theorem dX12_phase_116 : decode cX12_phase 116 = .ok (.iload_n 3, 1) := by decide +kernel
theorem dX12_phase_117 : decode cX12_phase 117 = .ok (.bipush 66, 2) := by decide +kernel
theorem dX12_phase_119 : decode cX12_phase 119 = .ok (.if_icmp .ne 7, 3) := by decide +kernel
theorem dX12_phase_122 : decode cX12_phase 122 = .ok (.iconst 2, 1) := by decide +kernel
theorem dX12_phase_123 : decode cX12_phase 123 = .ok (.goto 4, 3) := by decide +kernel
theorem dX12_phase_126 : decode cX12_phase 126 = .ok (.iconst 0, 1) := by decide +kernel
theorem dX12_phase_127 : decode cX12_phase 127 = .ok (.ireturn, 1) := by decide +kernel
theorem dX12_phase_128 : decode cX12_phase 128 = .ok (.iload_n 3, 1) := by decide +kernel
theorem dX12_phase_129 : decode cX12_phase 129 = .ok (.bipush 83, 2) := by decide +kernel
theorem dX12_phase_131 : decode cX12_phase 131 = .ok (.if_icmp .ne 7, 3) := by decide +kernel
theorem dX12_phase_134 : decode cX12_phase 134 = .ok (.iconst 2, 1) := by decide +kernel
theorem dX12_phase_135 : decode cX12_phase 135 = .ok (.goto 24, 3) := by decide +kernel
theorem dX12_phase_138 : decode cX12_phase 138 = .ok (.iload_n 3, 1) := by decide +kernel
theorem dX12_phase_139 : decode cX12_phase 139 = .ok (.bipush 65, 2) := by decide +kernel
theorem dX12_phase_141 : decode cX12_phase 141 = .ok (.if_icmp .ne 7, 3) := by decide +kernel
theorem dX12_phase_144 : decode cX12_phase 144 = .ok (.iconst 3, 1) := by decide +kernel
theorem dX12_phase_145 : decode cX12_phase 145 = .ok (.goto 14, 3) := by decide +kernel
theorem dX12_phase_148 : decode cX12_phase 148 = .ok (.iload_n 3, 1) := by decide +kernel
theorem dX12_phase_149 : decode cX12_phase 149 = .ok (.bipush 70, 2) := by decide +kernel
theorem dX12_phase_151 : decode cX12_phase 151 = .ok (.if_icmp .ne 7, 3) := by decide +kernel
theorem dX12_phase_154 : decode cX12_phase 154 = .ok (.iconst 4, 1) := by decide +kernel
theorem dX12_phase_155 : decode cX12_phase 155 = .ok (.goto 4, 3) := by decide +kernel
theorem dX12_phase_158 : decode cX12_phase 158 = .ok (.iconst 0, 1) := by decide +kernel
theorem dX12_phase_159 : decode cX12_phase 159 = .ok (.ireturn, 1) := by decide +kernel
theorem dX12_phase_160 : decode cX12_phase 160 = .ok (.iload 4, 2) := by decide +kernel
theorem dX12_phase_162 : decode cX12_phase 162 = .ok (.iconst 5, 1) := by decide +kernel
theorem dX12_phase_163 : decode cX12_phase 163 = .ok (.if_icmp .le 17, 3) := by decide +kernel
theorem dX12_phase_166 : decode cX12_phase 166 = .ok (.iload 5, 2) := by decide +kernel
theorem dX12_phase_168 : decode cX12_phase 168 = .ok (.ifCond .eq 12, 3) := by decide +kernel
theorem dX12_phase_171 : decode cX12_phase 171 = .ok (.iload_n 3, 1) := by decide +kernel
theorem dX12_phase_172 : decode cX12_phase 172 = .ok (.bipush 83, 2) := by decide +kernel
theorem dX12_phase_174 : decode cX12_phase 174 = .ok (.if_icmp .ne 6, 3) := by decide +kernel
theorem dX12_phase_177 : decode cX12_phase 177 = .ok (.bipush 8, 2) := by decide +kernel
theorem dX12_phase_179 : decode cX12_phase 179 = .ok (.ireturn, 1) := by decide +kernel
theorem dX12_phase_180 : decode cX12_phase 180 = .ok (.iload 4, 2) := by decide +kernel
theorem dX12_phase_182 : decode cX12_phase 182 = .ok (.bipush 7, 2) := by decide +kernel
theorem dX12_phase_184 : decode cX12_phase 184 = .ok (.if_icmp .ne 16, 3) := by decide +kernel
theorem dX12_phase_187 : decode cX12_phase 187 = .ok (.iload_n 3, 1) := by decide +kernel
theorem dX12_phase_188 : decode cX12_phase 188 = .ok (.bipush 82, 2) := by decide +kernel
theorem dX12_phase_190 : decode cX12_phase 190 = .ok (.if_icmp .ne 8, 3) := by decide +kernel
theorem dX12_phase_193 : decode cX12_phase 193 = .ok (.bipush 7, 2) := by decide +kernel
theorem dX12_phase_195 : decode cX12_phase 195 = .ok (.goto 4, 3) := by decide +kernel
theorem dX12_phase_198 : decode cX12_phase 198 = .ok (.iconst 0, 1) := by decide +kernel
theorem dX12_phase_199 : decode cX12_phase 199 = .ok (.ireturn, 1) := by decide +kernel
theorem dX12_phase_200 : decode cX12_phase 200 = .ok (.iload_n 3, 1) := by decide +kernel
theorem dX12_phase_201 : decode cX12_phase 201 = .ok (.bipush 82, 2) := by decide +kernel
theorem dX12_phase_203 : decode cX12_phase 203 = .ok (.if_icmp .ne 6, 3) := by decide +kernel
theorem dX12_phase_206 : decode cX12_phase 206 = .ok (.bipush 7, 2) := by decide +kernel
theorem dX12_phase_208 : decode cX12_phase 208 = .ok (.ireturn, 1) := by decide +kernel
theorem dX12_phase_209 : decode cX12_phase 209 = .ok (.iload_n 3, 1) := by decide +kernel
theorem dX12_phase_210 : decode cX12_phase 210 = .ok (.bipush 65, 2) := by decide +kernel
theorem dX12_phase_212 : decode cX12_phase 212 = .ok (.if_icmp .eq 11, 3) := by decide +kernel
theorem dX12_phase_215 : decode cX12_phase 215 = .ok (.iload_n 3, 1) := by decide +kernel
theorem dX12_phase_216 : decode cX12_phase 216 = .ok (.bipush 70, 2) := by decide +kernel
theorem dX12_phase_218 : decode cX12_phase 218 = .ok (.if_icmp .eq 5, 3) := by decide +kernel
theorem dX12_phase_221 : decode cX12_phase 221 = .ok (.iconst 0, 1) := by decide +kernel
theorem dX12_phase_222 : decode cX12_phase 222 = .ok (.ireturn, 1) := by decide +kernel
theorem dX12_phase_223 : decode cX12_phase 223 = .ok (.iload 4, 2) := by decide +kernel
theorem dX12_phase_225 : decode cX12_phase 225 = .ok (.iconst 3, 1) := by decide +kernel
theorem dX12_phase_226 : decode cX12_phase 226 = .ok (.if_icmp .ne 15, 3) := by decide +kernel
theorem dX12_phase_229 : decode cX12_phase 229 = .ok (.iload_n 3, 1) := by decide +kernel
theorem dX12_phase_230 : decode cX12_phase 230 = .ok (.bipush 70, 2) := by decide +kernel
theorem dX12_phase_232 : decode cX12_phase 232 = .ok (.if_icmp .ne 7, 3) := by decide +kernel
theorem dX12_phase_235 : decode cX12_phase 235 = .ok (.iconst 4, 1) := by decide +kernel
theorem dX12_phase_236 : decode cX12_phase 236 = .ok (.goto 4, 3) := by decide +kernel
theorem dX12_phase_239 : decode cX12_phase 239 = .ok (.iconst 3, 1) := by decide +kernel
theorem dX12_phase_240 : decode cX12_phase 240 = .ok (.ireturn, 1) := by decide +kernel
theorem dX12_phase_241 : decode cX12_phase 241 = .ok (.iload 4, 2) := by decide +kernel
theorem dX12_phase_243 : decode cX12_phase 243 = .ok (.iconst 4, 1) := by decide +kernel
theorem dX12_phase_244 : decode cX12_phase 244 = .ok (.if_icmp .ne 20, 3) := by decide +kernel
theorem dX12_phase_247 : decode cX12_phase 247 = .ok (.iload_n 3, 1) := by decide +kernel
theorem dX12_phase_248 : decode cX12_phase 248 = .ok (.bipush 70, 2) := by decide +kernel
theorem dX12_phase_250 : decode cX12_phase 250 = .ok (.if_icmp .ne 12, 3) := by decide +kernel
theorem dX12_phase_253 : decode cX12_phase 253 = .ok (.iload 6, 2) := by decide +kernel
theorem dX12_phase_255 : decode cX12_phase 255 = .ok (.ifCond .ne 7, 3) := by decide +kernel
theorem dX12_phase_258 : decode cX12_phase 258 = .ok (.iconst 5, 1) := by decide +kernel
theorem dX12_phase_259 : decode cX12_phase 259 = .ok (.goto 4, 3) := by decide +kernel
theorem dX12_phase_262 : decode cX12_phase 262 = .ok (.iconst 4, 1) := by decide +kernel
theorem dX12_phase_263 : decode cX12_phase 263 = .ok (.ireturn, 1) := by decide +kernel
theorem dX12_phase_264 : decode cX12_phase 264 = .ok (.iload 4, 2) := by decide +kernel
theorem dX12_phase_266 : decode cX12_phase 266 = .ok (.iconst 5, 1) := by decide +kernel
theorem dX12_phase_267 : decode cX12_phase 267 = .ok (.if_icmp .ne 21, 3) := by decide +kernel
theorem dX12_phase_270 : decode cX12_phase 270 = .ok (.iload_n 3, 1) := by decide +kernel
theorem dX12_phase_271 : decode cX12_phase 271 = .ok (.bipush 65, 2) := by decide +kernel
theorem dX12_phase_273 : decode cX12_phase 273 = .ok (.if_icmp .ne 13, 3) := by decide +kernel
theorem dX12_phase_276 : decode cX12_phase 276 = .ok (.iload 6, 2) := by decide +kernel
theorem dX12_phase_278 : decode cX12_phase 278 = .ok (.ifCond .eq 8, 3) := by decide +kernel
theorem dX12_phase_281 : decode cX12_phase 281 = .ok (.bipush 6, 2) := by decide +kernel
theorem dX12_phase_283 : decode cX12_phase 283 = .ok (.goto 4, 3) := by decide +kernel
theorem dX12_phase_286 : decode cX12_phase 286 = .ok (.iconst 5, 1) := by decide +kernel
theorem dX12_phase_287 : decode cX12_phase 287 = .ok (.ireturn, 1) := by decide +kernel
theorem dX12_phase_288 : decode cX12_phase 288 = .ok (.bipush 6, 2) := by decide +kernel
theorem dX12_phase_290 : decode cX12_phase 290 = .ok (.ireturn, 1) := by decide +kernel
theorem e_X12_phase_223 {X : gk_X} {F : Nat} {l3 : Int32} {l4 : Int32} {l6 : Int32} {S : gk_S} {r : (Int32 × gk_S)} (h0 : f_X12_phase_223 F l3 l4 l6 S = some r) : EvW X m_X12_phase 1 0 0 223 [none, none, none, some (.int l3), some (.int l4), none, some (.int l6)] [] S (qRI r) := by
  unfold f_X12_phase_223 at h0
  refine ev_iload (pc := 223) (i := 4) rfl dX12_phase_223 ?_
  refine ev_iconst (pc := 225) (v := 3) (by decide) dX12_phase_225 ?_
  refine ev_ic_ne (pc := 226) (tgt := 241) (by decide) dX12_phase_226 (fun c41 => ?_) (fun c41 => ?_)
  · replace h0 := qi_f h0 c41
    refine ev_iload (pc := 241) (i := 4) rfl dX12_phase_241 ?_
    refine ev_iconst (pc := 243) (v := 4) (by decide) dX12_phase_243 ?_
    refine ev_ic_ne (pc := 244) (tgt := 264) (by decide) dX12_phase_244 (fun c43 => ?_) (fun c43 => ?_)
    · replace h0 := qi_f h0 c43
      refine ev_iload (pc := 264) (i := 4) rfl dX12_phase_264 ?_
      refine ev_iconst (pc := 266) (v := 5) (by decide) dX12_phase_266 ?_
      refine ev_ic_ne (pc := 267) (tgt := 288) (by decide) dX12_phase_267 (fun c45 => ?_) (fun c45 => ?_)
      · replace h0 := qi_f h0 c45
        refine ev_bipush (pc := 288) (v := 6) (by decide) dX12_phase_288 ?_
        exact ev_ireturn (pc := 290) rfl (nar_int _) (qRI_eq h0) dX12_phase_290
      · replace h0 := qi_t h0 c45
        refine ev_iload_n (pc := 270) (i := 3) rfl rfl dX12_phase_270 ?_
        refine ev_bipush (pc := 271) (v := 65) (by decide) dX12_phase_271 ?_
        refine ev_ic_ne (pc := 273) (tgt := 286) (by decide) dX12_phase_273 (fun c47 => ?_) (fun c47 => ?_)
        · replace h0 := qi_f h0 c47
          refine ev_iconst (pc := 286) (v := 5) (by decide) dX12_phase_286 ?_
          exact ev_ireturn (pc := 287) rfl (nar_int _) (qRI_eq h0) dX12_phase_287
        · replace h0 := qi_t h0 c47
          refine ev_iload (pc := 276) (i := 6) rfl dX12_phase_276 ?_
          refine ev_if_eq (pc := 278) (tgt := 286) (by decide) dX12_phase_278 (fun c49 => ?_) (fun c49 => ?_)
          · replace h0 := qi_t h0 c49
            refine ev_iconst (pc := 286) (v := 5) (by decide) dX12_phase_286 ?_
            exact ev_ireturn (pc := 287) rfl (nar_int _) (qRI_eq h0) dX12_phase_287
          · replace h0 := qi_f h0 c49
            refine ev_bipush (pc := 281) (v := 6) (by decide) dX12_phase_281 ?_
            refine ev_goto (pc := 283) (tgt := 287) (by decide) dX12_phase_283 ?_
            exact ev_ireturn (pc := 287) rfl (nar_int _) (qRI_eq h0) dX12_phase_287
    · replace h0 := qi_t h0 c43
      refine ev_iload_n (pc := 247) (i := 3) rfl rfl dX12_phase_247 ?_
      refine ev_bipush (pc := 248) (v := 70) (by decide) dX12_phase_248 ?_
      refine ev_ic_ne (pc := 250) (tgt := 262) (by decide) dX12_phase_250 (fun c51 => ?_) (fun c51 => ?_)
      · replace h0 := qi_f h0 c51
        refine ev_iconst (pc := 262) (v := 4) (by decide) dX12_phase_262 ?_
        exact ev_ireturn (pc := 263) rfl (nar_int _) (qRI_eq h0) dX12_phase_263
      · replace h0 := qi_t h0 c51
        refine ev_iload (pc := 253) (i := 6) rfl dX12_phase_253 ?_
        refine ev_if_ne (pc := 255) (tgt := 262) (by decide) dX12_phase_255 (fun c53 => ?_) (fun c53 => ?_)
        · replace h0 := qi_f h0 c53
          refine ev_iconst (pc := 262) (v := 4) (by decide) dX12_phase_262 ?_
          exact ev_ireturn (pc := 263) rfl (nar_int _) (qRI_eq h0) dX12_phase_263
        · replace h0 := qi_t h0 c53
          refine ev_iconst (pc := 258) (v := 5) (by decide) dX12_phase_258 ?_
          refine ev_goto (pc := 259) (tgt := 263) (by decide) dX12_phase_259 ?_
          exact ev_ireturn (pc := 263) rfl (nar_int _) (qRI_eq h0) dX12_phase_263
  · replace h0 := qi_t h0 c41
    refine ev_iload_n (pc := 229) (i := 3) rfl rfl dX12_phase_229 ?_
    refine ev_bipush (pc := 230) (v := 70) (by decide) dX12_phase_230 ?_
    refine ev_ic_ne (pc := 232) (tgt := 239) (by decide) dX12_phase_232 (fun c55 => ?_) (fun c55 => ?_)
    · replace h0 := qi_f h0 c55
      refine ev_iconst (pc := 239) (v := 3) (by decide) dX12_phase_239 ?_
      exact ev_ireturn (pc := 240) rfl (nar_int _) (qRI_eq h0) dX12_phase_240
    · replace h0 := qi_t h0 c55
      refine ev_iconst (pc := 235) (v := 4) (by decide) dX12_phase_235 ?_
      refine ev_goto (pc := 236) (tgt := 240) (by decide) dX12_phase_236 ?_
      exact ev_ireturn (pc := 240) rfl (nar_int _) (qRI_eq h0) dX12_phase_240
theorem e_X12_phase_180 {X : gk_X} {F : Nat} {l3 : Int32} {l4 : Int32} {l6 : Int32} {S : gk_S} {r : (Int32 × gk_S)} (h0 : f_X12_phase_180 F l3 l4 l6 S = some r) : EvW X m_X12_phase 1 0 0 180 [none, none, none, some (.int l3), some (.int l4), none, some (.int l6)] [] S (qRI r) := by
  unfold f_X12_phase_180 at h0
  refine ev_iload (pc := 180) (i := 4) rfl dX12_phase_180 ?_
  refine ev_bipush (pc := 182) (v := 7) (by decide) dX12_phase_182 ?_
  refine ev_ic_ne (pc := 184) (tgt := 200) (by decide) dX12_phase_184 (fun c35 => ?_) (fun c35 => ?_)
  · replace h0 := qi_f h0 c35
    refine ev_iload_n (pc := 200) (i := 3) rfl rfl dX12_phase_200 ?_
    refine ev_bipush (pc := 201) (v := 82) (by decide) dX12_phase_201 ?_
    refine ev_ic_ne (pc := 203) (tgt := 209) (by decide) dX12_phase_203 (fun c37 => ?_) (fun c37 => ?_)
    · replace h0 := qi_f h0 c37
      refine ev_iload_n (pc := 209) (i := 3) rfl rfl dX12_phase_209 ?_
      refine ev_bipush (pc := 210) (v := 65) (by decide) dX12_phase_210 ?_
      refine ev_ic_eq (pc := 212) (tgt := 223) (by decide) dX12_phase_212 (fun c39 => ?_) (fun c39 => ?_)
      · replace h0 := qi_t h0 c39
        exact ev_weak (qL_n (qL_n (qL_n (qL_s (qL_s (qL_n (qL_s qL_nil))))))) (e_X12_phase_223 h0)
      · replace h0 := qi_f h0 c39
        refine ev_iload_n (pc := 215) (i := 3) rfl rfl dX12_phase_215 ?_
        refine ev_bipush (pc := 216) (v := 70) (by decide) dX12_phase_216 ?_
        refine ev_ic_eq (pc := 218) (tgt := 223) (by decide) dX12_phase_218 (fun c57 => ?_) (fun c57 => ?_)
        · replace h0 := qi_t h0 c57
          exact ev_weak (qL_n (qL_n (qL_n (qL_s (qL_s (qL_n (qL_s qL_nil))))))) (e_X12_phase_223 h0)
        · replace h0 := qi_f h0 c57
          refine ev_iconst (pc := 221) (v := 0) (by decide) dX12_phase_221 ?_
          exact ev_ireturn (pc := 222) rfl (nar_int _) (qRI_eq h0) dX12_phase_222
    · replace h0 := qi_t h0 c37
      refine ev_bipush (pc := 206) (v := 7) (by decide) dX12_phase_206 ?_
      exact ev_ireturn (pc := 208) rfl (nar_int _) (qRI_eq h0) dX12_phase_208
  · replace h0 := qi_t h0 c35
    refine ev_iload_n (pc := 187) (i := 3) rfl rfl dX12_phase_187 ?_
    refine ev_bipush (pc := 188) (v := 82) (by decide) dX12_phase_188 ?_
    refine ev_ic_ne (pc := 190) (tgt := 198) (by decide) dX12_phase_190 (fun c59 => ?_) (fun c59 => ?_)
    · replace h0 := qi_f h0 c59
      refine ev_iconst (pc := 198) (v := 0) (by decide) dX12_phase_198 ?_
      exact ev_ireturn (pc := 199) rfl (nar_int _) (qRI_eq h0) dX12_phase_199
    · replace h0 := qi_t h0 c59
      refine ev_bipush (pc := 193) (v := 7) (by decide) dX12_phase_193 ?_
      refine ev_goto (pc := 195) (tgt := 199) (by decide) dX12_phase_195 ?_
      exact ev_ireturn (pc := 199) rfl (nar_int _) (qRI_eq h0) dX12_phase_199
theorem e_X12_phase_46 {X : gk_X} {F : Nat} {l3 : Int32} {l4 : Int32} {l5 : Int32} {s0 : Int32} {S : gk_S} {r : (Int32 × gk_S)} (h0 : f_X12_phase_46 F l3 l4 l5 s0 S = some r) : EvW X m_X12_phase 1 0 0 46 [none, none, none, some (.int l3), some (.int l4), some (.int l5), none] [.int s0] S (qRI r) := by
  unfold f_X12_phase_46 at h0
  refine ev_istore (pc := 46) (L' := [none, none, none, some (.int l3), some (.int l4), some (.int l5), some (.int s0)]) (i := 6) (by decide) rfl rfl dX12_phase_46 ?_
  refine ev_iload (pc := 48) (i := 4) rfl dX12_phase_48 ?_
  refine ev_iconst (pc := 50) (v := 1) (by decide) dX12_phase_50 ?_
  refine ev_ic_ne (pc := 51) (tgt := 96) (by decide) dX12_phase_51 (fun c29 => ?_) (fun c29 => ?_)
  · replace h0 := qi_f h0 c29
    refine ev_iload (pc := 96) (i := 4) rfl dX12_phase_96 ?_
    refine ev_iconst (pc := 98) (v := 2) (by decide) dX12_phase_98 ?_
    refine ev_ic_ne (pc := 99) (tgt := 160) (by decide) dX12_phase_99 (fun c31 => ?_) (fun c31 => ?_)
    · replace h0 := qi_f h0 c31
      refine ev_iload (pc := 160) (i := 4) rfl dX12_phase_160 ?_
      refine ev_iconst (pc := 162) (v := 5) (by decide) dX12_phase_162 ?_
      refine ev_ic_le (pc := 163) (tgt := 180) (by decide) dX12_phase_163 (fun c33 => ?_) (fun c33 => ?_)
      · replace h0 := qi_t h0 c33
        exact ev_weak (qL_n (qL_n (qL_n (qL_s (qL_s (qL_n (qL_s qL_nil))))))) (e_X12_phase_180 h0)
      · replace h0 := qi_f h0 c33
        refine ev_iload (pc := 166) (i := 5) rfl dX12_phase_166 ?_
        refine ev_if_eq (pc := 168) (tgt := 180) (by decide) dX12_phase_168 (fun c61 => ?_) (fun c61 => ?_)
        · replace h0 := qi_t h0 c61
          exact ev_weak (qL_n (qL_n (qL_n (qL_s (qL_s (qL_n (qL_s qL_nil))))))) (e_X12_phase_180 h0)
        · replace h0 := qi_f h0 c61
          refine ev_iload_n (pc := 171) (i := 3) rfl rfl dX12_phase_171 ?_
          refine ev_bipush (pc := 172) (v := 83) (by decide) dX12_phase_172 ?_
          refine ev_ic_ne (pc := 174) (tgt := 180) (by decide) dX12_phase_174 (fun c63 => ?_) (fun c63 => ?_)
          · replace h0 := qi_f h0 c63
            exact ev_weak (qL_n (qL_n (qL_n (qL_s (qL_s (qL_n (qL_s qL_nil))))))) (e_X12_phase_180 h0)
          · replace h0 := qi_t h0 c63
            refine ev_bipush (pc := 177) (v := 8) (by decide) dX12_phase_177 ?_
            exact ev_ireturn (pc := 179) rfl (nar_int _) (qRI_eq h0) dX12_phase_179
    · replace h0 := qi_t h0 c31
      refine ev_iload_n (pc := 102) (i := 3) rfl rfl dX12_phase_102 ?_
      refine ev_bipush (pc := 103) (v := 82) (by decide) dX12_phase_103 ?_
      refine ev_ic_ne (pc := 105) (tgt := 111) (by decide) dX12_phase_105 (fun c65 => ?_) (fun c65 => ?_)
      · replace h0 := qi_f h0 c65
        refine ev_iload (pc := 111) (i := 5) rfl dX12_phase_111 ?_
        refine ev_if_ne (pc := 113) (tgt := 128) (by decide) dX12_phase_113 (fun c67 => ?_) (fun c67 => ?_)
        · replace h0 := qi_f h0 c67
          refine ev_iload_n (pc := 128) (i := 3) rfl rfl dX12_phase_128 ?_
          refine ev_bipush (pc := 129) (v := 83) (by decide) dX12_phase_129 ?_
          refine ev_ic_ne (pc := 131) (tgt := 138) (by decide) dX12_phase_131 (fun c69 => ?_) (fun c69 => ?_)
          · replace h0 := qi_f h0 c69
            refine ev_iload_n (pc := 138) (i := 3) rfl rfl dX12_phase_138 ?_
            refine ev_bipush (pc := 139) (v := 65) (by decide) dX12_phase_139 ?_
            refine ev_ic_ne (pc := 141) (tgt := 148) (by decide) dX12_phase_141 (fun c71 => ?_) (fun c71 => ?_)
            · replace h0 := qi_f h0 c71
              refine ev_iload_n (pc := 148) (i := 3) rfl rfl dX12_phase_148 ?_
              refine ev_bipush (pc := 149) (v := 70) (by decide) dX12_phase_149 ?_
              refine ev_ic_ne (pc := 151) (tgt := 158) (by decide) dX12_phase_151 (fun c73 => ?_) (fun c73 => ?_)
              · replace h0 := qi_f h0 c73
                refine ev_iconst (pc := 158) (v := 0) (by decide) dX12_phase_158 ?_
                exact ev_ireturn (pc := 159) rfl (nar_int _) (qRI_eq h0) dX12_phase_159
              · replace h0 := qi_t h0 c73
                refine ev_iconst (pc := 154) (v := 4) (by decide) dX12_phase_154 ?_
                refine ev_goto (pc := 155) (tgt := 159) (by decide) dX12_phase_155 ?_
                exact ev_ireturn (pc := 159) rfl (nar_int _) (qRI_eq h0) dX12_phase_159
            · replace h0 := qi_t h0 c71
              refine ev_iconst (pc := 144) (v := 3) (by decide) dX12_phase_144 ?_
              refine ev_goto (pc := 145) (tgt := 159) (by decide) dX12_phase_145 ?_
              exact ev_ireturn (pc := 159) rfl (nar_int _) (qRI_eq h0) dX12_phase_159
          · replace h0 := qi_t h0 c69
            refine ev_iconst (pc := 134) (v := 2) (by decide) dX12_phase_134 ?_
            refine ev_goto (pc := 135) (tgt := 159) (by decide) dX12_phase_135 ?_
            exact ev_ireturn (pc := 159) rfl (nar_int _) (qRI_eq h0) dX12_phase_159
        · replace h0 := qi_t h0 c67
          refine ev_iload_n (pc := 116) (i := 3) rfl rfl dX12_phase_116 ?_
          refine ev_bipush (pc := 117) (v := 66) (by decide) dX12_phase_117 ?_
          refine ev_ic_ne (pc := 119) (tgt := 126) (by decide) dX12_phase_119 (fun c75 => ?_) (fun c75 => ?_)
          · replace h0 := qi_f h0 c75
            refine ev_iconst (pc := 126) (v := 0) (by decide) dX12_phase_126 ?_
            exact ev_ireturn (pc := 127) rfl (nar_int _) (qRI_eq h0) dX12_phase_127
          · replace h0 := qi_t h0 c75
            refine ev_iconst (pc := 122) (v := 2) (by decide) dX12_phase_122 ?_
            refine ev_goto (pc := 123) (tgt := 127) (by decide) dX12_phase_123 ?_
            exact ev_ireturn (pc := 127) rfl (nar_int _) (qRI_eq h0) dX12_phase_127
      · replace h0 := qi_t h0 c65
        refine ev_bipush (pc := 108) (v := 7) (by decide) dX12_phase_108 ?_
        exact ev_ireturn (pc := 110) rfl (nar_int _) (qRI_eq h0) dX12_phase_110
  · replace h0 := qi_t h0 c29
    refine ev_iload (pc := 54) (i := 5) rfl dX12_phase_54 ?_
    refine ev_if_eq (pc := 56) (tgt := 73) (by decide) dX12_phase_56 (fun c77 => ?_) (fun c77 => ?_)
    · replace h0 := qi_t h0 c77
      refine ev_iload_n (pc := 73) (i := 3) rfl rfl dX12_phase_73 ?_
      refine ev_bipush (pc := 74) (v := 66) (by decide) dX12_phase_74 ?_
      refine ev_ic_ne (pc := 76) (tgt := 83) (by decide) dX12_phase_76 (fun c79 => ?_) (fun c79 => ?_)
      · replace h0 := qi_f h0 c79
        refine ev_iload_n (pc := 83) (i := 3) rfl rfl dX12_phase_83 ?_
        refine ev_bipush (pc := 84) (v := 82) (by decide) dX12_phase_84 ?_
        refine ev_ic_ne (pc := 86) (tgt := 94) (by decide) dX12_phase_86 (fun c81 => ?_) (fun c81 => ?_)
        · replace h0 := qi_f h0 c81
          refine ev_iconst (pc := 94) (v := 0) (by decide) dX12_phase_94 ?_
          exact ev_ireturn (pc := 95) rfl (nar_int _) (qRI_eq h0) dX12_phase_95
        · replace h0 := qi_t h0 c81
          refine ev_bipush (pc := 89) (v := 7) (by decide) dX12_phase_89 ?_
          refine ev_goto (pc := 91) (tgt := 95) (by decide) dX12_phase_91 ?_
          exact ev_ireturn (pc := 95) rfl (nar_int _) (qRI_eq h0) dX12_phase_95
      · replace h0 := qi_t h0 c79
        refine ev_iconst (pc := 79) (v := 2) (by decide) dX12_phase_79 ?_
        refine ev_goto (pc := 80) (tgt := 95) (by decide) dX12_phase_80 ?_
        exact ev_ireturn (pc := 95) rfl (nar_int _) (qRI_eq h0) dX12_phase_95
    · replace h0 := qi_f h0 c77
      refine ev_iload_n (pc := 59) (i := 3) rfl rfl dX12_phase_59 ?_
      refine ev_bipush (pc := 60) (v := 83) (by decide) dX12_phase_60 ?_
      refine ev_ic_ne (pc := 62) (tgt := 69) (by decide) dX12_phase_62 (fun c83 => ?_) (fun c83 => ?_)
      · replace h0 := qi_f h0 c83
        refine ev_iconst (pc := 69) (v := 0) (by decide) dX12_phase_69 ?_
        refine ev_goto (pc := 70) (tgt := 95) (by decide) dX12_phase_70 ?_
        exact ev_ireturn (pc := 95) rfl (nar_int _) (qRI_eq h0) dX12_phase_95
      · replace h0 := qi_t h0 c83
        refine ev_iconst (pc := 65) (v := 1) (by decide) dX12_phase_65 ?_
        refine ev_goto (pc := 66) (tgt := 95) (by decide) dX12_phase_66 ?_
        exact ev_ireturn (pc := 95) rfl (nar_int _) (qRI_eq h0) dX12_phase_95
theorem e_X12_phase_23 {X : gk_X} {F : Nat} {l0 : Nat} {l1 : Int32} {l2 : Int32} {l3 : Int32} {l4 : Int32} {s0 : Int32} {S : gk_S} {r : (Int32 × gk_S)} (h0 : f_X12_phase_23 F l0 l1 l2 l3 l4 s0 S = some r) : EvW X m_X12_phase 1 0 0 23 [some (.ref l0), some (.int l1), some (.int l2), some (.int l3), some (.int l4), none, none] [.int s0] S (qRI r) := by
  unfold f_X12_phase_23 at h0
  refine ev_istore (pc := 23) (L' := [some (.ref l0), some (.int l1), some (.int l2), some (.int l3), some (.int l4), some (.int s0), none]) (i := 5) (by decide) rfl rfl dX12_phase_23 ?_
  refine ev_aload_n (pc := 25) (i := 0) rfl rfl rfl dX12_phase_25 ?_
  obtain ⟨g15, h16⟩ := qk_el h0; clear h0
  obtain ⟨b17, e18, h19⟩ := qP_el h16; clear h16
  refine xv_getP (pc := 26) fn_931 (isb_el g15) e18 gw_1171 dX12_phase_26 ?_
  refine ev_bipush (pc := 29) (v := 9) (by decide) dX12_phase_29 ?_
  refine ev_iload_n (pc := 31) (i := 1) rfl rfl dX12_phase_31 ?_
  refine ev_imul (pc := 32)  dX12_phase_32 ?_
  refine ev_bipush (pc := 33) (v := 7) (by decide) dX12_phase_33 ?_
  refine ev_iadd (pc := 35)  dX12_phase_35 ?_
  obtain ⟨g20, h21⟩ := qk_el h19; clear h19
  obtain ⟨g22, h23⟩ := qk_el h21; clear h21
  obtain ⟨x24, e25, h26⟩ := qv_el h23; clear h23
  refine yv_iald (pc := 36) (isb_el g20) (inb_el g22) e25 dX12_phase_36 ?_
  refine ev_iload_n (pc := 37) (i := 2) rfl rfl dX12_phase_37 ?_
  refine ev_ic_ne (pc := 38) (tgt := 45) (by decide) dX12_phase_38 (fun c27 => ?_) (fun c27 => ?_)
  · replace h26 := qi_f h26 c27
    refine ev_iconst (pc := 45) (v := 0) (by decide) dX12_phase_45 ?_
    exact ev_weak (qL_n (qL_n (qL_n (qL_s (qL_s (qL_s (qL_n qL_nil))))))) (e_X12_phase_46 h26)
  · replace h26 := qi_t h26 c27
    refine ev_iconst (pc := 41) (v := 1) (by decide) dX12_phase_41 ?_
    refine ev_goto (pc := 42) (tgt := 46) (by decide) dX12_phase_42 ?_
    exact ev_weak (qL_n (qL_n (qL_n (qL_s (qL_s (qL_s (qL_n qL_nil))))))) (e_X12_phase_46 h26)
theorem e_X12_phase {X : gk_X} {F : Nat} {S : gk_S} {a : Nat} {p0 : Int32} {p1 : Int32} {p2 : Int32} {r : (Int32 × gk_S)} (h0 : f_X12_phase F S a p0 p1 p2 = some r) : EvM X m_X12_phase 1 0 0 [.ref a, .int p0, .int p1, .int p2] S (qRI r) := by
  unfold f_X12_phase at h0
  refine ev_method (by decide +kernel) rfl rfl (Nat.le_of_ble_eq_true rfl) ?_
  show EvW X m_X12_phase 1 0 0 0 [some (.ref a), some (.int p0), some (.int p1), some (.int p2), none, none, none] [] S _
  refine ev_aload_n (pc := 0) (i := 0) rfl rfl rfl dX12_phase_0 ?_
  obtain ⟨g1, h2⟩ := qk_el h0; clear h0
  obtain ⟨b3, e4, h5⟩ := qP_el h2; clear h2
  refine xv_getP (pc := 1) fn_931 (isb_el g1) e4 gw_1171 dX12_phase_1 ?_
  refine ev_bipush (pc := 4) (v := 9) (by decide) dX12_phase_4 ?_
  refine ev_iload_n (pc := 6) (i := 1) rfl rfl dX12_phase_6 ?_
  refine ev_imul (pc := 7)  dX12_phase_7 ?_
  refine ev_iconst (pc := 8) (v := 5) (by decide) dX12_phase_8 ?_
  refine ev_iadd (pc := 9)  dX12_phase_9 ?_
  obtain ⟨g6, h7⟩ := qk_el h5; clear h5
  obtain ⟨g8, h9⟩ := qk_el h7; clear h7
  obtain ⟨x10, e11, h12⟩ := qv_el h9; clear h9
  refine yv_iald (pc := 10) (isb_el g6) (inb_el g8) e11 dX12_phase_10 ?_
  refine ev_istore (pc := 11) (L' := [some (.ref a), some (.int p0), some (.int p1), some (.int p2), some (.int x10), none, none]) (i := 4) (by decide) rfl rfl dX12_phase_11 ?_
  refine ev_iload_n (pc := 13) (i := 2) rfl rfl dX12_phase_13 ?_
  refine ev_iconst (pc := 14) (v := 1) (by decide) dX12_phase_14 ?_
  refine ev_ic_ne (pc := 15) (tgt := 22) (by decide) dX12_phase_15 (fun c13 => ?_) (fun c13 => ?_)
  · replace h12 := qi_f h12 c13
    refine ev_iconst (pc := 22) (v := 0) (by decide) dX12_phase_22 ?_
    exact ev_weak (qL_s (qL_s (qL_s (qL_s (qL_s (qL_n (qL_n qL_nil))))))) (e_X12_phase_23 h12)
  · replace h12 := qi_t h12 c13
    refine ev_iconst (pc := 18) (v := 1) (by decide) dX12_phase_18 ?_
    refine ev_goto (pc := 19) (tgt := 23) (by decide) dX12_phase_19 ?_
    exact ev_weak (qL_s (qL_s (qL_s (qL_s (qL_s (qL_n (qL_n qL_nil))))))) (e_X12_phase_23 h12)
