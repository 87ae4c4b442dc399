/-! Octets -/
theorem dX2_at_0 : decode cX2_at 0 = .ok (.iload_n 1, 1) := by decide +kernel
theorem dX2_at_1 : decode cX2_at 1 = .ok (.ifCond .lt 33, 3) := by decide +kernel
theorem dX2_at_4 : decode cX2_at 4 = .ok (.iload_n 1, 1) := by decide +kernel
theorem dX2_at_5 : decode cX2_at 5 = .ok (.aload_n 0, 1) := by decide +kernel
theorem dX2_at_6 : decode cX2_at 6 = .ok (.getfield 13, 3) := by decide +kernel
theorem dX2_at_9 : decode cX2_at 9 = .ok (.if_icmp .ge 25, 3) := by decide +kernel
theorem dX2_at_12 : decode cX2_at 12 = .ok (.iload_n 1, 1) := by decide +kernel
theorem dX2_at_13 : decode cX2_at 13 = .ok (.aload_n 0, 1) := by decide +kernel
theorem dX2_at_14 : decode cX2_at 14 = .ok (.getfield 7, 3) := by decide +kernel
theorem dX2_at_17 : decode cX2_at 17 = .ok (.arraylength, 1) := by decide +kernel
theorem dX2_at_18 : decode cX2_at 18 = .ok (.if_icmp .ge 16, 3) := by decide +kernel
theorem dX2_at_21 : decode cX2_at 21 = .ok (.aload_n 0, 1) := by decide +kernel
theorem dX2_at_22 : decode cX2_at 22 = .ok (.getfield 7, 3) := by decide +kernel
theorem dX2_at_25 : decode cX2_at 25 = .ok (.iload_n 1, 1) := by decide +kernel
theorem dX2_at_26 : decode cX2_at 26 = .ok (.baload, 1) := by decide +kernel
theorem dX2_at_27 : decode cX2_at 27 = .ok (.sipush 255, 3) := by decide +kernel
theorem dX2_at_30 : decode cX2_at 30 = .ok (.iand, 1) := by decide +kernel
theorem dX2_at_31 : decode cX2_at 31 = .ok (.goto 4, 3) := by decide +kernel
theorem dX2_at_34 : decode cX2_at 34 = .ok (.iconst 0, 1) := by decide +kernel
theorem dX2_at_35 : decode cX2_at 35 = .ok (.ireturn, 1) := by decide +kernel
theorem t_X2_at {X : gk_X} {S : gk_S} {a b n m : Nat} {k : Int32} (h : Oc S a b n m) : EvM X m_X2_at 1 0 0 [.ref a, .int k] S (.inl (some (.int (oc_at (xI S b) m k))), S) := by
  obtain ⟨h1, h2, h3, h4, h5, h6, h7⟩ := h
  refine ev_method (by decide +kernel) rfl rfl (Nat.le_of_ble_eq_true rfl) ?_
  show EvW X m_X2_at 1 0 0 0 [some (.ref a), some (.int k)] [] S _
  refine ev_iload_n (pc := 0) (i := 1) rfl rfl dX2_at_0 ?_
  refine ev_if_lt (pc := 1) (tgt := 34) (by decide) dX2_at_1 (fun c1 => ?_) (fun c1 => ?_)
  · refine ev_iconst (pc := 34) (v := 0) (by decide) dX2_at_34 ?_
    exact ev_ireturn (pc := 35) rfl rfl (by first | (exfalso; rw [i_lt, i_0] at c1; rw [i_le, i_n (by omega)] at c2 c3; omega) | rw [oc_at_lt c1] | rw [oc_at_ge (by omega) c2] | rw [oc_at_in (by omega) c1 c2]) dX2_at_35
  · refine ev_iload_n (pc := 4) (i := 1) rfl rfl dX2_at_4 ?_
    refine ev_aload_n (pc := 5) (i := 0) rfl rfl rfl dX2_at_5 ?_
    refine xv_getIv (pc := 6) (x := (nI m)) fn_101 h1 h5 gw_40 dX2_at_6 ?_
    refine ev_ic_ge (pc := 9) (tgt := 34) (by decide) dX2_at_9 (fun c2 => ?_) (fun c2 => ?_)
    · refine ev_iconst (pc := 34) (v := 0) (by decide) dX2_at_34 ?_
      exact ev_ireturn (pc := 35) rfl rfl (by first | (exfalso; rw [i_lt, i_0] at c1; rw [i_le, i_n (by omega)] at c2 c3; omega) | rw [oc_at_lt c1] | rw [oc_at_ge (by omega) c2] | rw [oc_at_in (by omega) c1 c2]) dX2_at_35
    · refine ev_iload_n (pc := 12) (i := 1) rfl rfl dX2_at_12 ?_
      refine ev_aload_n (pc := 13) (i := 0) rfl rfl rfl dX2_at_13 ?_
      refine xv_getP (pc := 14) fn_100 h1 h2 gw_39 dX2_at_14 ?_
      refine xv_alen (pc := 17) (n := n) h3 (by decide) h4 dX2_at_17 ?_
      refine ev_ic_ge (pc := 18) (tgt := 34) (by decide) dX2_at_18 (fun c3 => ?_) (fun c3 => ?_)
      · refine ev_iconst (pc := 34) (v := 0) (by decide) dX2_at_34 ?_
        exact ev_ireturn (pc := 35) rfl rfl (by first | (exfalso; rw [i_lt, i_0] at c1; rw [i_le, i_n (by omega)] at c2 c3; omega) | rw [oc_at_lt c1] | rw [oc_at_ge (by omega) c2] | rw [oc_at_in (by omega) c1 c2]) dX2_at_35
      · refine ev_aload_n (pc := 21) (i := 0) rfl rfl rfl dX2_at_21 ?_
        refine xv_getP (pc := 22) fn_100 h1 h2 gw_39 dX2_at_22 ?_
        refine ev_iload_n (pc := 25) (i := 1) rfl rfl dX2_at_25 ?_
        refine ev_bald (pc := 26) h3 (by rw [h4]; exact i_in' c1 c2 (by omega) h6) dX2_at_26 ?_
        refine ev_sipush (pc := 27) (v := 255) (by decide) dX2_at_27 ?_
        refine ev_iand (pc := 30)  dX2_at_30 ?_
        refine ev_goto (pc := 31) (tgt := 35) (by decide) dX2_at_31 ?_
        exact ev_ireturn (pc := 35) rfl rfl (by first | (exfalso; rw [i_lt, i_0] at c1; rw [i_le, i_n (by omega)] at c2 c3; omega) | rw [oc_at_lt c1] | rw [oc_at_ge (by omega) c2] | rw [oc_at_in (by omega) c1 c2]) dX2_at_35
theorem dX2_pair_0 : decode cX2_pair 0 = .ok (.aload_n 0, 1) := by decide +kernel
theorem dX2_pair_1 : decode cX2_pair 1 = .ok (.iload_n 1, 1) := by decide +kernel
theorem dX2_pair_2 : decode cX2_pair 2 = .ok (.invokevirtual 17, 3) := by decide +kernel
theorem dX2_pair_5 : decode cX2_pair 5 = .ok (.sipush 256, 3) := by decide +kernel
theorem dX2_pair_8 : decode cX2_pair 8 = .ok (.imul, 1) := by decide +kernel
theorem dX2_pair_9 : decode cX2_pair 9 = .ok (.aload_n 0, 1) := by decide +kernel
theorem dX2_pair_10 : decode cX2_pair 10 = .ok (.iload_n 1, 1) := by decide +kernel
theorem dX2_pair_11 : decode cX2_pair 11 = .ok (.iconst 1, 1) := by decide +kernel
theorem dX2_pair_12 : decode cX2_pair 12 = .ok (.iadd, 1) := by decide +kernel
theorem dX2_pair_13 : decode cX2_pair 13 = .ok (.invokevirtual 17, 3) := by decide +kernel
theorem dX2_pair_16 : decode cX2_pair 16 = .ok (.iadd, 1) := by decide +kernel
theorem dX2_pair_17 : decode cX2_pair 17 = .ok (.ireturn, 1) := by decide +kernel
theorem t_X2_pair {X : gk_X} {S : gk_S} {a b n m : Nat} {k : Int32} (h : Oc S a b n m) : EvM X m_X2_pair 2 0 0 [.ref a, .int k] S (.inl (some (.int (oc_at (xI S b) m k * 256 + oc_at (xI S b) m (k + 1)))), S) := by
  refine ev_method (by decide +kernel) rfl rfl (Nat.le_of_ble_eq_true rfl) ?_
  show EvW X m_X2_pair 2 0 0 0 [some (.ref a), some (.int k)] [] S _
  refine ev_aload_n (pc := 0) (i := 0) rfl rfl rfl dX2_pair_0 ?_
  refine ev_iload_n (pc := 1) (i := 1) rfl rfl dX2_pair_1 ?_
  refine xv_callV (pc := 2) (st := []) (as := [.int k]) (v := (some (.int (oc_at (xI S b) m k)))) (S' := S) ok_X2_at (t_X2_at h) h.1 (by decide) rfl (Nat.le_of_ble_eq_true rfl) rfl gw_1034 dX2_pair_2 ?_
  refine ev_sipush (pc := 5) (v := 256) (by decide) dX2_pair_5 ?_
  refine ev_imul (pc := 8)  dX2_pair_8 ?_
  refine ev_aload_n (pc := 9) (i := 0) rfl rfl rfl dX2_pair_9 ?_
  refine ev_iload_n (pc := 10) (i := 1) rfl rfl dX2_pair_10 ?_
  refine ev_iconst (pc := 11) (v := 1) (by decide) dX2_pair_11 ?_
  refine ev_iadd (pc := 12)  dX2_pair_12 ?_
  refine xv_callV (pc := 13) (st := [.int ((oc_at (xI S b) m k) * 256)]) (as := [.int (k + 1)]) (v := (some (.int (oc_at (xI S b) m (k + 1))))) (S' := S) ok_X2_at (t_X2_at h) h.1 (by decide) rfl (Nat.le_of_ble_eq_true rfl) rfl gw_1034 dX2_pair_13 ?_
  refine ev_iadd (pc := 16)  dX2_pair_16 ?_
  exact ev_ireturn (pc := 17) rfl rfl rfl dX2_pair_17
def oc_pair (f : Nat → Int32) (m : Nat) (k : Int32) : Int32 := oc_at f m k * 256 + oc_at f m (k + 1)
theorem dX2_quad_0 : decode cX2_quad 0 = .ok (.aload_n 0, 1) := by decide +kernel
theorem dX2_quad_1 : decode cX2_quad 1 = .ok (.iload_n 1, 1) := by decide +kernel
theorem dX2_quad_2 : decode cX2_quad 2 = .ok (.invokevirtual 21, 3) := by decide +kernel
theorem dX2_quad_5 : decode cX2_quad 5 = .ok (.i2l, 1) := by decide +kernel
theorem dX2_quad_6 : decode cX2_quad 6 = .ok (.ldc2_w 24, 3) := by decide +kernel
theorem dX2_quad_9 : decode cX2_quad 9 = .ok (.lmul, 1) := by decide +kernel
theorem dX2_quad_10 : decode cX2_quad 10 = .ok (.aload_n 0, 1) := by decide +kernel
theorem dX2_quad_11 : decode cX2_quad 11 = .ok (.iload_n 1, 1) := by decide +kernel
theorem dX2_quad_12 : decode cX2_quad 12 = .ok (.iconst 2, 1) := by decide +kernel
theorem dX2_quad_13 : decode cX2_quad 13 = .ok (.iadd, 1) := by decide +kernel
theorem dX2_quad_14 : decode cX2_quad 14 = .ok (.invokevirtual 21, 3) := by decide +kernel
theorem dX2_quad_17 : decode cX2_quad 17 = .ok (.i2l, 1) := by decide +kernel
theorem dX2_quad_18 : decode cX2_quad 18 = .ok (.ladd, 1) := by decide +kernel
theorem dX2_quad_19 : decode cX2_quad 19 = .ok (.lreturn, 1) := by decide +kernel
theorem t_X2_quad {X : gk_X} {S : gk_S} {a b n m : Nat} {k : Int32} (h : Oc S a b n m) : EvM X m_X2_quad 3 0 0 [.ref a, .int k] S (.inl (some (.long ((oc_pair (xI S b) m k).toInt64 * 65536 + (oc_pair (xI S b) m (k + 2)).toInt64))), S) := by
  refine ev_method (by decide +kernel) rfl rfl (Nat.le_of_ble_eq_true rfl) ?_
  show EvW X m_X2_quad 3 0 0 0 [some (.ref a), some (.int k)] [] S _
  refine ev_aload_n (pc := 0) (i := 0) rfl rfl rfl dX2_quad_0 ?_
  refine ev_iload_n (pc := 1) (i := 1) rfl rfl dX2_quad_1 ?_
  refine xv_callV (pc := 2) (st := []) (as := [.int k]) (v := (some (.int (oc_at (xI S b) m k * 256 + oc_at (xI S b) m (k + 1))))) (S' := S) ok_X2_pair (t_X2_pair h) h.1 (by decide) rfl (Nat.le_of_ble_eq_true rfl) rfl gw_1064 dX2_quad_2 ?_
  refine ev_i2l (pc := 5)  dX2_quad_5 ?_
  refine ev_ldc2 (pc := 6) (v := 65536) gw_1065 dX2_quad_6 ?_
  refine ev_lmul (pc := 9)  dX2_quad_9 ?_
  refine ev_aload_n (pc := 10) (i := 0) rfl rfl rfl dX2_quad_10 ?_
  refine ev_iload_n (pc := 11) (i := 1) rfl rfl dX2_quad_11 ?_
  refine ev_iconst (pc := 12) (v := 2) (by decide) dX2_quad_12 ?_
  refine ev_iadd (pc := 13)  dX2_quad_13 ?_
  refine xv_callV (pc := 14) (st := [.long ((((oc_at (xI S b) m k * 256 + oc_at (xI S b) m (k + 1)) : Int32).toInt64) * 65536)]) (as := [.int (k + 2)]) (v := (some (.int (oc_at (xI S b) m (k + 2) * 256 + oc_at (xI S b) m ((k + 2) + 1))))) (S' := S) ok_X2_pair (t_X2_pair h) h.1 (by decide) rfl (Nat.le_of_ble_eq_true rfl) rfl gw_1064 dX2_quad_14 ?_
  refine ev_i2l (pc := 17)  dX2_quad_17 ?_
  refine ev_ladd (pc := 18)  dX2_quad_18 ?_
  exact ev_lreturn (pc := 19) rfl rfl dX2_quad_19
