theorem dX2_at_0 : decode cX2_at 0 = .ok (.iload_n 1, 1) := by decide +kernel
theorem dX2_at_1 : decode cX2_at 1 = .ok (.ifCond .lt 33, 3) := by decide +kernel
theorem dX2_at_4 : decode cX2_at 4 = .ok (.iload_n 1, 1) := by decide +kernel
theorem dX2_at_5 : decode cX2_at 5 = .ok (.aload_n 0, 1) := by decide +kernel
theorem dX2_at_6 : decode cX2_at 6 = .ok (.getfield 13, 3) := by decide +kernel
theorem dX2_at_9 : decode cX2_at 9 = .ok (.if_icmp .ge 25, 3) := by decide +kernel
theorem dX2_at_12 : decode cX2_at 12 = .ok (.iload_n 1, 1) := by decide +kernel
theorem dX2_at_13 : decode cX2_at 13 = .ok (.aload_n 0, 1) := by decide +kernel
theorem dX2_at_14 : decode cX2_at 14 = .ok (.getfield 7, 3) := by decide +kernel
theorem dX2_at_17 : decode cX2_at 17 = .ok (.arraylength, 1) := by decide +kernel
theorem dX2_at_18 : decode cX2_at 18 = .ok (.if_icmp .ge 16, 3) := by decide +kernel
theorem dX2_at_21 : decode cX2_at 21 = .ok (.aload_n 0, 1) := by decide +kernel
theorem dX2_at_22 : decode cX2_at 22 = .ok (.getfield 7, 3) := by decide +kernel
theorem dX2_at_25 : decode cX2_at 25 = .ok (.iload_n 1, 1) := by decide +kernel
theorem dX2_at_26 : decode cX2_at 26 = .ok (.baload, 1) := by decide +kernel
theorem dX2_at_27 : decode cX2_at 27 = .ok (.sipush 255, 3) := by decide +kernel
theorem dX2_at_30 : decode cX2_at 30 = .ok (.iand, 1) := by decide +kernel
theorem dX2_at_31 : decode cX2_at 31 = .ok (.goto 4, 3) := by decide +kernel
theorem dX2_at_34 : decode cX2_at 34 = .ok (.iconst 0, 1) := by decide +kernel
theorem dX2_at_35 : decode cX2_at 35 = .ok (.ireturn, 1) := by decide +kernel
def f_X2_at (F : Nat) (S : gk_S) (a : Nat) (p0 : Int32) : Option (Int32 × gk_S) := if p0 < (0 : Int32) then (some (0, S)) else qk (isb S a 1) <| qv (gI S 101 a) fun x5 => if x5 ≤ p0 then (some (0, S)) else qP (gP S 100 a) fun b10 => qk (isb S b10 10) <| qv (gL S b10) fun n15 => if (nI n15) ≤ p0 then (some (0, S)) else qP (gP S 100 a) fun b20 => qk (isb S b20 10) <| qk (inb p0 (gL S b20)) <| qv (aI S b20 p0) fun x27 => some ((x27 &&& 255), S)
theorem e_X2_at {X : gk_X} {F : Nat} {S : gk_S} {a : Nat} {p0 : Int32} {r : (Int32 × gk_S)} (h0 : f_X2_at F S a p0 = some r) : EvM X m_X2_at 1 0 0 [.ref a, .int p0] S (qRI r) := by
  unfold f_X2_at at h0
  refine ev_method (by decide +kernel) rfl rfl (Nat.le_of_ble_eq_true rfl) ?_
  show EvW X m_X2_at 1 0 0 0 [some (.ref a), some (.int p0)] [] S _
  refine ev_iload_n (pc := 0) (i := 1) rfl rfl dX2_at_0 ?_
  refine ev_if_lt (pc := 1) (tgt := 34) (by decide) dX2_at_1 (fun c1 => ?_) (fun c1 => ?_)
  · replace h0 := qi_t h0 c1
    refine ev_iconst (pc := 34) (v := 0) (by decide) dX2_at_34 ?_
    exact ev_ireturn (pc := 35) rfl rfl (by cases h0; rfl) dX2_at_35
  · replace h0 := qi_f h0 c1
    refine ev_iload_n (pc := 4) (i := 1) rfl rfl dX2_at_4 ?_
    refine ev_aload_n (pc := 5) (i := 0) rfl rfl rfl dX2_at_5 ?_
    obtain ⟨g3, h4⟩ := qk_el h0; clear h0
    obtain ⟨x5, e6, h7⟩ := qv_el h4; clear h4
    refine xv_getIv (pc := 6) fn_101 (isb_el g3) e6 gw_40 dX2_at_6 ?_
    refine ev_ic_ge (pc := 9) (tgt := 34) (by decide) dX2_at_9 (fun c8 => ?_) (fun c8 => ?_)
    · replace h7 := qi_t h7 c8
      refine ev_iconst (pc := 34) (v := 0) (by decide) dX2_at_34 ?_
      exact ev_ireturn (pc := 35) rfl rfl (by cases h7; rfl) dX2_at_35
    · replace h7 := qi_f h7 c8
      refine ev_iload_n (pc := 12) (i := 1) rfl rfl dX2_at_12 ?_
      refine ev_aload_n (pc := 13) (i := 0) rfl rfl rfl dX2_at_13 ?_
      obtain ⟨b10, e11, h12⟩ := qP_el h7; clear h7
      refine xv_getP (pc := 14) fn_100 (isb_el g3) e11 gw_39 dX2_at_14 ?_
      obtain ⟨g13, h14⟩ := qk_el h12; clear h12
      obtain ⟨n15, e16, h17⟩ := qv_el h14; clear h14
      refine xv_alen (pc := 17) (n := n15) (isb_el g13) (by decide) e16 dX2_at_17 ?_
      refine ev_ic_ge (pc := 18) (tgt := 34) (by decide) dX2_at_18 (fun c18 => ?_) (fun c18 => ?_)
      · replace h17 := qi_t h17 c18
        refine ev_iconst (pc := 34) (v := 0) (by decide) dX2_at_34 ?_
        exact ev_ireturn (pc := 35) rfl rfl (by cases h17; rfl) dX2_at_35
      · replace h17 := qi_f h17 c18
        refine ev_aload_n (pc := 21) (i := 0) rfl rfl rfl dX2_at_21 ?_
        obtain ⟨b20, e21, h22⟩ := qP_el h17; clear h17
        refine xv_getP (pc := 22) fn_100 (isb_el g3) e21 gw_39 dX2_at_22 ?_
        refine ev_iload_n (pc := 25) (i := 1) rfl rfl dX2_at_25 ?_
        obtain ⟨g23, h24⟩ := qk_el h22; clear h22
        obtain ⟨g25, h26⟩ := qk_el h24; clear h24
        obtain ⟨x27, e28, h29⟩ := qv_el h26; clear h26
        refine yv_bald (pc := 26) (isb_el g23) (inb_el g25) e28 dX2_at_26 ?_
        refine ev_sipush (pc := 27) (v := 255) (by decide) dX2_at_27 ?_
        refine ev_iand (pc := 30)  dX2_at_30 ?_
        refine ev_goto (pc := 31) (tgt := 35) (by decide) dX2_at_31 ?_
        exact ev_ireturn (pc := 35) rfl rfl (by cases h29; rfl) dX2_at_35
theorem dX2_pair_0 : decode cX2_pair 0 = .ok (.aload_n 0, 1) := by decide +kernel
theorem dX2_pair_1 : decode cX2_pair 1 = .ok (.iload_n 1, 1) := by decide +kernel
theorem dX2_pair_2 : decode cX2_pair 2 = .ok (.invokevirtual 17, 3) := by decide +kernel
theorem dX2_pair_5 : decode cX2_pair 5 = .ok (.sipush 256, 3) := by decide +kernel
theorem dX2_pair_8 : decode cX2_pair 8 = .ok (.imul, 1) := by decide +kernel
theorem dX2_pair_9 : decode cX2_pair 9 = .ok (.aload_n 0, 1) := by decide +kernel
theorem dX2_pair_10 : decode cX2_pair 10 = .ok (.iload_n 1, 1) := by decide +kernel
theorem dX2_pair_11 : decode cX2_pair 11 = .ok (.iconst 1, 1) := by decide +kernel
theorem dX2_pair_12 : decode cX2_pair 12 = .ok (.iadd, 1) := by decide +kernel
theorem dX2_pair_13 : decode cX2_pair 13 = .ok (.invokevirtual 17, 3) := by decide +kernel
theorem dX2_pair_16 : decode cX2_pair 16 = .ok (.iadd, 1) := by decide +kernel
theorem dX2_pair_17 : decode cX2_pair 17 = .ok (.ireturn, 1) := by decide +kernel
def f_X2_pair (F : Nat) (S : gk_S) (a : Nat) (p0 : Int32) : Option (Int32 × gk_S) := qk (isb S a 1) <| qc (f_X2_at F S a p0) fun x3 S4 => qk (isb S4 a 1) <| qc (f_X2_at F S4 a (p0 + 1)) fun x9 S10 => some (((x3 * 256) + x9), S10)
theorem e_X2_pair {X : gk_X} {F : Nat} {S : gk_S} {a : Nat} {p0 : Int32} {r : (Int32 × gk_S)} (h0 : f_X2_pair F S a p0 = some r) : EvM X m_X2_pair 2 0 0 [.ref a, .int p0] S (qRI r) := by
  unfold f_X2_pair at h0
  refine ev_method (by decide +kernel) rfl rfl (Nat.le_of_ble_eq_true rfl) ?_
  show EvW X m_X2_pair 2 0 0 0 [some (.ref a), some (.int p0)] [] S _
  refine ev_aload_n (pc := 0) (i := 0) rfl rfl rfl dX2_pair_0 ?_
  refine ev_iload_n (pc := 1) (i := 1) rfl rfl dX2_pair_1 ?_
  obtain ⟨g1, h2⟩ := qk_el h0; clear h0
  obtain ⟨x3, S4, e5, h6⟩ := qc_el h2; clear h2
  refine xv_callV (pc := 2) (st := []) (as := [.int p0]) (v := (some (.int x3))) (S' := S4) ok_X2_at (e_X2_at e5) (isb_el g1) (by decide) rfl (Nat.le_of_ble_eq_true rfl) rfl gw_1034 dX2_pair_2 ?_
  refine ev_sipush (pc := 5) (v := 256) (by decide) dX2_pair_5 ?_
  refine ev_imul (pc := 8)  dX2_pair_8 ?_
  refine ev_aload_n (pc := 9) (i := 0) rfl rfl rfl dX2_pair_9 ?_
  refine ev_iload_n (pc := 10) (i := 1) rfl rfl dX2_pair_10 ?_
  refine ev_iconst (pc := 11) (v := 1) (by decide) dX2_pair_11 ?_
  refine ev_iadd (pc := 12)  dX2_pair_12 ?_
  obtain ⟨g7, h8⟩ := qk_el h6; clear h6
  obtain ⟨x9, S10, e11, h12⟩ := qc_el h8; clear h8
  refine xv_callV (pc := 13) (st := [.int (x3 * 256)]) (as := [.int (p0 + 1)]) (v := (some (.int x9))) (S' := S10) ok_X2_at (e_X2_at e11) (isb_el g7) (by decide) rfl (Nat.le_of_ble_eq_true rfl) rfl gw_1034 dX2_pair_13 ?_
  refine ev_iadd (pc := 16)  dX2_pair_16 ?_
  exact ev_ireturn (pc := 17) rfl rfl (by cases h12; rfl) dX2_pair_17
theorem dX2_quad_0 : decode cX2_quad 0 = .ok (.aload_n 0, 1) := by decide +kernel
theorem dX2_quad_1 : decode cX2_quad 1 = .ok (.iload_n 1, 1) := by decide +kernel
theorem dX2_quad_2 : decode cX2_quad 2 = .ok (.invokevirtual 21, 3) := by decide +kernel
theorem dX2_quad_5 : decode cX2_quad 5 = .ok (.i2l, 1) := by decide +kernel
theorem dX2_quad_6 : decode cX2_quad 6 = .ok (.ldc2_w 24, 3) := by decide +kernel
theorem dX2_quad_9 : decode cX2_quad 9 = .ok (.lmul, 1) := by decide +kernel
theorem dX2_quad_10 : decode cX2_quad 10 = .ok (.aload_n 0, 1) := by decide +kernel
theorem dX2_quad_11 : decode cX2_quad 11 = .ok (.iload_n 1, 1) := by decide +kernel
theorem dX2_quad_12 : decode cX2_quad 12 = .ok (.iconst 2, 1) := by decide +kernel
theorem dX2_quad_13 : decode cX2_quad 13 = .ok (.iadd, 1) := by decide +kernel
theorem dX2_quad_14 : decode cX2_quad 14 = .ok (.invokevirtual 21, 3) := by decide +kernel
theorem dX2_quad_17 : decode cX2_quad 17 = .ok (.i2l, 1) := by decide +kernel
theorem dX2_quad_18 : decode cX2_quad 18 = .ok (.ladd, 1) := by decide +kernel
theorem dX2_quad_19 : decode cX2_quad 19 = .ok (.lreturn, 1) := by decide +kernel
def f_X2_quad (F : Nat) (S : gk_S) (a : Nat) (p0 : Int32) : Option (Int64 × gk_S) := qk (isb S a 1) <| qc (f_X2_pair F S a p0) fun x3 S4 => qk (isb S4 a 1) <| qc (f_X2_pair F S4 a (p0 + 2)) fun x9 S10 => some (((((x3 : Int32).toInt64) * 65536) + ((x9 : Int32).toInt64)), S10)
theorem e_X2_quad {X : gk_X} {F : Nat} {S : gk_S} {a : Nat} {p0 : Int32} {r : (Int64 × gk_S)} (h0 : f_X2_quad F S a p0 = some r) : EvM X m_X2_quad 3 0 0 [.ref a, .int p0] S (qRJ r) := by
  unfold f_X2_quad at h0
  refine ev_method (by decide +kernel) rfl rfl (Nat.le_of_ble_eq_true rfl) ?_
  show EvW X m_X2_quad 3 0 0 0 [some (.ref a), some (.int p0)] [] S _
  refine ev_aload_n (pc := 0) (i := 0) rfl rfl rfl dX2_quad_0 ?_
  refine ev_iload_n (pc := 1) (i := 1) rfl rfl dX2_quad_1 ?_
  obtain ⟨g1, h2⟩ := qk_el h0; clear h0
  obtain ⟨x3, S4, e5, h6⟩ := qc_el h2; clear h2
  refine xv_callV (pc := 2) (st := []) (as := [.int p0]) (v := (some (.int x3))) (S' := S4) ok_X2_pair (e_X2_pair e5) (isb_el g1) (by decide) rfl (Nat.le_of_ble_eq_true rfl) rfl gw_1064 dX2_quad_2 ?_
  refine ev_i2l (pc := 5)  dX2_quad_5 ?_
  refine ev_ldc2 (pc := 6) (v := 65536) gw_1065 dX2_quad_6 ?_
  refine ev_lmul (pc := 9)  dX2_quad_9 ?_
  refine ev_aload_n (pc := 10) (i := 0) rfl rfl rfl dX2_quad_10 ?_
  refine ev_iload_n (pc := 11) (i := 1) rfl rfl dX2_quad_11 ?_
  refine ev_iconst (pc := 12) (v := 2) (by decide) dX2_quad_12 ?_
  refine ev_iadd (pc := 13)  dX2_quad_13 ?_
  obtain ⟨g7, h8⟩ := qk_el h6; clear h6
  obtain ⟨x9, S10, e11, h12⟩ := qc_el h8; clear h8
  refine xv_callV (pc := 14) (st := [.long (((x3 : Int32).toInt64) * 65536)]) (as := [.int (p0 + 2)]) (v := (some (.int x9))) (S' := S10) ok_X2_pair (e_X2_pair e11) (isb_el g7) (by decide) rfl (Nat.le_of_ble_eq_true rfl) rfl gw_1064 dX2_quad_14 ?_
  refine ev_i2l (pc := 17)  dX2_quad_17 ?_
  refine ev_ladd (pc := 18)  dX2_quad_18 ?_
  exact ev_lreturn (pc := 19) rfl (by cases h12; rfl) dX2_quad_19
theorem dX2_add_0 : decode cX2_add 0 = .ok (.aload_n 0, 1) := by decide +kernel
theorem dX2_add_1 : decode cX2_add 1 = .ok (.getfield 13, 3) := by decide +kernel
theorem dX2_add_4 : decode cX2_add 4 = .ok (.ifCond .lt 36, 3) := by decide +kernel
theorem dX2_add_7 : decode cX2_add 7 = .ok (.aload_n 0, 1) := by decide +kernel
theorem dX2_add_8 : decode cX2_add 8 = .ok (.getfield 13, 3) := by decide +kernel
theorem dX2_add_11 : decode cX2_add 11 = .ok (.aload_n 0, 1) := by decide +kernel
theorem dX2_add_12 : decode cX2_add 12 = .ok (.getfield 7, 3) := by decide +kernel
theorem dX2_add_15 : decode cX2_add 15 = .ok (.arraylength, 1) := by decide +kernel
theorem dX2_add_16 : decode cX2_add 16 = .ok (.if_icmp .ge 24, 3) := by decide +kernel
theorem dX2_add_19 : decode cX2_add 19 = .ok (.aload_n 0, 1) := by decide +kernel
theorem dX2_add_20 : decode cX2_add 20 = .ok (.getfield 7, 3) := by decide +kernel
theorem dX2_add_23 : decode cX2_add 23 = .ok (.aload_n 0, 1) := by decide +kernel
theorem dX2_add_24 : decode cX2_add 24 = .ok (.getfield 13, 3) := by decide +kernel
theorem dX2_add_27 : decode cX2_add 27 = .ok (.iload_n 1, 1) := by decide +kernel
theorem dX2_add_28 : decode cX2_add 28 = .ok (.i2b, 1) := by decide +kernel
theorem dX2_add_29 : decode cX2_add 29 = .ok (.bastore, 1) := by decide +kernel
theorem dX2_add_30 : decode cX2_add 30 = .ok (.aload_n 0, 1) := by decide +kernel
theorem dX2_add_31 : decode cX2_add 31 = .ok (.dup, 1) := by decide +kernel
theorem dX2_add_32 : decode cX2_add 32 = .ok (.getfield 13, 3) := by decide +kernel
theorem dX2_add_35 : decode cX2_add 35 = .ok (.iconst 1, 1) := by decide +kernel
theorem dX2_add_36 : decode cX2_add 36 = .ok (.iadd, 1) := by decide +kernel
theorem dX2_add_37 : decode cX2_add 37 = .ok (.putfield 13, 3) := by decide +kernel
theorem dX2_add_40 : decode cX2_add 40 = .ok (.return_, 1) := by decide +kernel
def f_X2_add (F : Nat) (S : gk_S) (a : Nat) (p0 : Int32) : Option (Unit × gk_S) := qk (isb S a 1) <| qv (gI S 101 a) fun x3 => if x3 < (0 : Int32) then (some ((), S)) else qv (gI S 101 a) fun x8 => qP (gP S 100 a) fun b11 => qk (isb S b11 10) <| qv (gL S b11) fun n16 => if (nI n16) ≤ x8 then (some ((), S)) else qP (gP S 100 a) fun b21 => qv (gI S 101 a) fun x24 => qk (isb S b21 10) <| qk (inb x24 (gL S b21)) <| qv (wB S b21 x24 ((p0 : Int32).toInt8.toInt32)) fun S31 => qv (gI S31 101 a) fun x34 => qv (sI S31 101 a (x34 + 1)) fun S37 => some ((), S37)
theorem e_X2_add {X : gk_X} {F : Nat} {S : gk_S} {a : Nat} {p0 : Int32} {r : (Unit × gk_S)} (h0 : f_X2_add F S a p0 = some r) : EvM X m_X2_add 1 0 0 [.ref a, .int p0] S (qRU r) := by
  unfold f_X2_add at h0
  refine ev_method (by decide +kernel) rfl rfl (Nat.le_of_ble_eq_true rfl) ?_
  show EvW X m_X2_add 1 0 0 0 [some (.ref a), some (.int p0)] [] S _
  refine ev_aload_n (pc := 0) (i := 0) rfl rfl rfl dX2_add_0 ?_
  obtain ⟨g1, h2⟩ := qk_el h0; clear h0
  obtain ⟨x3, e4, h5⟩ := qv_el h2; clear h2
  refine xv_getIv (pc := 1) fn_101 (isb_el g1) e4 gw_40 dX2_add_1 ?_
  refine ev_if_lt (pc := 4) (tgt := 40) (by decide) dX2_add_4 (fun c6 => ?_) (fun c6 => ?_)
  · replace h5 := qi_t h5 c6
    exact ev_return (pc := 40) rfl (by cases h5; rfl) dX2_add_40
  · replace h5 := qi_f h5 c6
    refine ev_aload_n (pc := 7) (i := 0) rfl rfl rfl dX2_add_7 ?_
    obtain ⟨x8, e9, h10⟩ := qv_el h5; clear h5
    refine xv_getIv (pc := 8) fn_101 (isb_el g1) e9 gw_40 dX2_add_8 ?_
    refine ev_aload_n (pc := 11) (i := 0) rfl rfl rfl dX2_add_11 ?_
    obtain ⟨b11, e12, h13⟩ := qP_el h10; clear h10
    refine xv_getP (pc := 12) fn_100 (isb_el g1) e12 gw_39 dX2_add_12 ?_
    obtain ⟨g14, h15⟩ := qk_el h13; clear h13
    obtain ⟨n16, e17, h18⟩ := qv_el h15; clear h15
    refine xv_alen (pc := 15) (n := n16) (isb_el g14) (by decide) e17 dX2_add_15 ?_
    refine ev_ic_ge (pc := 16) (tgt := 40) (by decide) dX2_add_16 (fun c19 => ?_) (fun c19 => ?_)
    · replace h18 := qi_t h18 c19
      exact ev_return (pc := 40) rfl (by cases h18; rfl) dX2_add_40
    · replace h18 := qi_f h18 c19
      refine ev_aload_n (pc := 19) (i := 0) rfl rfl rfl dX2_add_19 ?_
      obtain ⟨b21, e22, h23⟩ := qP_el h18; clear h18
      refine xv_getP (pc := 20) fn_100 (isb_el g1) e22 gw_39 dX2_add_20 ?_
      refine ev_aload_n (pc := 23) (i := 0) rfl rfl rfl dX2_add_23 ?_
      obtain ⟨x24, e25, h26⟩ := qv_el h23; clear h23
      refine xv_getIv (pc := 24) fn_101 (isb_el g1) e25 gw_40 dX2_add_24 ?_
      refine ev_iload_n (pc := 27) (i := 1) rfl rfl dX2_add_27 ?_
      refine ev_i2b (pc := 28)  dX2_add_28 ?_
      obtain ⟨g27, h28⟩ := qk_el h26; clear h26
      obtain ⟨g29, h30⟩ := qk_el h28; clear h28
      obtain ⟨S31, e32, h33⟩ := qv_el h30; clear h30
      refine yv_bast (pc := 29) (isb_el g27) (inb_el g29) e32 dX2_add_29 ?_
      refine ev_aload_n (pc := 30) (i := 0) rfl rfl rfl dX2_add_30 ?_
      refine ev_dup (pc := 31) (.inr rfl) dX2_add_31 ?_
      obtain ⟨x34, e35, h36⟩ := qv_el h33; clear h33
      refine xv_getIv (pc := 32) fn_101 (is_wB (isb_el g1) e32) e35 gw_40 dX2_add_32 ?_
      refine ev_iconst (pc := 35) (v := 1) (by decide) dX2_add_35 ?_
      refine ev_iadd (pc := 36)  dX2_add_36 ?_
      obtain ⟨S37, e38, h39⟩ := qv_el h36; clear h36
      refine yv_putI (pc := 37) fn_101 ⟨rfl, rfl⟩ (is_wB (isb_el g1) e32) e38 gw_40 dX2_add_37 ?_
      exact ev_return (pc := 40) rfl (by cases h39; rfl) dX2_add_40
theorem dJ0_coder_7d493_0 : decode cJ0_coder_7d493 0 = .ok (.getstatic 38, 3) := by decide +kernel
theorem dJ0_coder_7d493_3 : decode cJ0_coder_7d493 3 = .ok (.ifCond .eq 10, 3) := by decide +kernel
theorem dJ0_coder_7d493_6 : decode cJ0_coder_7d493 6 = .ok (.aload_n 0, 1) := by decide +kernel
theorem dJ0_coder_7d493_7 : decode cJ0_coder_7d493 7 = .ok (.getfield 15, 3) := by decide +kernel
theorem dJ0_coder_7d493_10 : decode cJ0_coder_7d493 10 = .ok (.goto 4, 3) := by decide +kernel
theorem dJ0_coder_7d493_13 : decode cJ0_coder_7d493 13 = .ok (.iconst 1, 1) := by decide +kernel
theorem dJ0_coder_7d493_14 : decode cJ0_coder_7d493 14 = .ok (.ireturn, 1) := by decide +kernel
def f_J0_coder_7d493 (F : Nat) (S : gk_S) (a : Nat) : Option (Int32 × gk_S) := qk (ltb a 34) <| some (0, S)
theorem e_J0_coder_7d493 {X : gk_X} {F : Nat} {S : gk_S} {a : Nat} {r : (Int32 × gk_S)} (h0 : f_J0_coder_7d493 F S a = some r) : EvM X m_J0_coder_7d493 1 0 0 [.retAddr (10 + a)] S (qRI r) := by
  unfold f_J0_coder_7d493 at h0
  obtain ⟨g1, h1⟩ := qk_el h0; clear h0; rename _ => h0
  refine ev_method (by decide +kernel) rfl (by simp [gk_okv, gk_isR]; have := (ltb_el g1); omega) (Nat.le_of_ble_eq_true rfl) ?_
  show EvW X m_J0_coder_7d493 1 0 0 0 [some (.retAddr (10 + a))] [] S _
  refine ev_getsC (pc := 0) gw_515 dJ0_coder_7d493_0 ?_
  refine ev_if_eq (pc := 3) (tgt := 13) (by decide) dJ0_coder_7d493_3 (fun c2 => absurd c2 (by decide)) (fun c2 => ?_)
  refine ev_aload_n (pc := 6) (i := 0) rfl rfl (by simp [gk_isR]; have := (ltb_el g1); omega) dJ0_coder_7d493_6 ?_
  refine ev_scod (pc := 7) (i := a) (ltb_el g1) gw_1647 dJ0_coder_7d493_7 ?_
  refine ev_goto (pc := 10) (tgt := 14) (by decide) dJ0_coder_7d493_10 ?_
  exact ev_ireturn (pc := 14) rfl rfl (by cases h0; rfl) dJ0_coder_7d493_14
theorem dJ0_length_8abf5_0 : decode cJ0_length_8abf5 0 = .ok (.aload_n 0, 1) := by decide +kernel
theorem dJ0_length_8abf5_1 : decode cJ0_length_8abf5 1 = .ok (.getfield 9, 3) := by decide +kernel
theorem dJ0_length_8abf5_4 : decode cJ0_length_8abf5 4 = .ok (.arraylength, 1) := by decide +kernel
theorem dJ0_length_8abf5_5 : decode cJ0_length_8abf5 5 = .ok (.aload_n 0, 1) := by decide +kernel
theorem dJ0_length_8abf5_6 : decode cJ0_length_8abf5 6 = .ok (.invokevirtual 335, 3) := by decide +kernel
theorem dJ0_length_8abf5_9 : decode cJ0_length_8abf5 9 = .ok (.ishr, 1) := by decide +kernel
theorem dJ0_length_8abf5_10 : decode cJ0_length_8abf5 10 = .ok (.ireturn, 1) := by decide +kernel
def f_J0_length_8abf5 (F : Nat) (S : gk_S) (a : Nat) : Option (Int32 × gk_S) := qk (ltb a 34) <| qc (f_J0_coder_7d493 F S a) fun x2 S3 => qv ((((Int32.ofNat (gk_s a).2.2.2.length) : Int32) >>> ((x2 : Int32) &&& 31))) fun x6 => some (x6, S3)
theorem e_J0_length_8abf5 {X : gk_X} {F : Nat} {S : gk_S} {a : Nat} {r : (Int32 × gk_S)} (h0 : f_J0_length_8abf5 F S a = some r) : EvM X m_J0_length_8abf5 2 0 0 [.retAddr (10 + a)] S (qRI r) := by
  unfold f_J0_length_8abf5 at h0
  obtain ⟨g1, h1⟩ := qk_el h0; clear h0; rename _ => h0
  refine ev_method (by decide +kernel) rfl (by simp [gk_okv, gk_isR]; have := (ltb_el g1); omega) (Nat.le_of_ble_eq_true rfl) ?_
  show EvW X m_J0_length_8abf5 2 0 0 0 [some (.retAddr (10 + a))] [] S _
  refine ev_aload_n (pc := 0) (i := 0) rfl rfl (by simp [gk_isR]; have := (ltb_el g1); omega) dJ0_length_8abf5_0 ?_
  refine ev_sval (pc := 1) (i := a) (ltb_el g1) gw_1646 dJ0_length_8abf5_1 ?_
  refine ev_sbln (pc := 4) (i := a) (ltb_el g1) dJ0_length_8abf5_4 ?_
  refine ev_aload_n (pc := 5) (i := 0) rfl rfl (by simp [gk_isR]; have := (ltb_el g1); omega) dJ0_length_8abf5_5 ?_
  obtain ⟨x2, S3, e4, h5⟩ := qc_el h0; clear h0
  refine xv_callT (pc := 6) (st := [.int (Int32.ofNat (gk_s a).2.2.2.length)]) (as := []) (v := (some (.int x2))) (S' := S3) (i9 := a) ok_J0_coder_7d493 (e_J0_coder_7d493 e4) (ltb_el g1) (by decide) rfl (Nat.le_of_ble_eq_true rfl) rfl gw_511 dJ0_length_8abf5_6 ?_
  refine ev_ishr (pc := 9)  dJ0_length_8abf5_9 ?_
  obtain ⟨x6, e7, h8⟩ := qv_el h5; clear h5
  refine xv_top e7 ?_
  exact ev_ireturn (pc := 10) rfl rfl (by cases h8; rfl) dJ0_length_8abf5_10
theorem dJ0_isLatin1_aae02_0 : decode cJ0_isLatin1_aae02 0 = .ok (.getstatic 38, 3) := by decide +kernel
theorem dJ0_isLatin1_aae02_3 : decode cJ0_isLatin1_aae02 3 = .ok (.ifCond .eq 14, 3) := by decide +kernel
theorem dJ0_isLatin1_aae02_6 : decode cJ0_isLatin1_aae02 6 = .ok (.aload_n 0, 1) := by decide +kernel
theorem dJ0_isLatin1_aae02_7 : decode cJ0_isLatin1_aae02 7 = .ok (.getfield 15, 3) := by decide +kernel
theorem dJ0_isLatin1_aae02_10 : decode cJ0_isLatin1_aae02 10 = .ok (.ifCond .ne 7, 3) := by decide +kernel
theorem dJ0_isLatin1_aae02_13 : decode cJ0_isLatin1_aae02 13 = .ok (.iconst 1, 1) := by decide +kernel
theorem dJ0_isLatin1_aae02_14 : decode cJ0_isLatin1_aae02 14 = .ok (.goto 4, 3) := by decide +kernel
theorem dJ0_isLatin1_aae02_17 : decode cJ0_isLatin1_aae02 17 = .ok (.iconst 0, 1) := by decide +kernel
theorem dJ0_isLatin1_aae02_18 : decode cJ0_isLatin1_aae02 18 = .ok (.ireturn, 1) := by decide +kernel
def f_J0_isLatin1_aae02 (F : Nat) (S : gk_S) (a : Nat) : Option (Int32 × gk_S) := qk (ltb a 34) <| some (1, S)
theorem e_J0_isLatin1_aae02 {X : gk_X} {F : Nat} {S : gk_S} {a : Nat} {r : (Int32 × gk_S)} (h0 : f_J0_isLatin1_aae02 F S a = some r) : EvM X m_J0_isLatin1_aae02 1 0 0 [.retAddr (10 + a)] S (qRI r) := by
  unfold f_J0_isLatin1_aae02 at h0
  obtain ⟨g1, h1⟩ := qk_el h0; clear h0; rename _ => h0
  refine ev_method (by decide +kernel) rfl (by simp [gk_okv, gk_isR]; have := (ltb_el g1); omega) (Nat.le_of_ble_eq_true rfl) ?_
  show EvW X m_J0_isLatin1_aae02 1 0 0 0 [some (.retAddr (10 + a))] [] S _
  refine ev_getsC (pc := 0) gw_515 dJ0_isLatin1_aae02_0 ?_
  refine ev_if_eq (pc := 3) (tgt := 17) (by decide) dJ0_isLatin1_aae02_3 (fun c2 => absurd c2 (by decide)) (fun c2 => ?_)
  refine ev_aload_n (pc := 6) (i := 0) rfl rfl (by simp [gk_isR]; have := (ltb_el g1); omega) dJ0_isLatin1_aae02_6 ?_
  refine ev_scod (pc := 7) (i := a) (ltb_el g1) gw_1647 dJ0_isLatin1_aae02_7 ?_
  refine ev_if_ne (pc := 10) (tgt := 17) (by decide) dJ0_isLatin1_aae02_10 (fun c3 => absurd c3 (by decide)) (fun c3 => ?_)
  refine ev_iconst (pc := 13) (v := 1) (by decide) dJ0_isLatin1_aae02_13 ?_
  refine ev_goto (pc := 14) (tgt := 18) (by decide) dJ0_isLatin1_aae02_14 ?_
  exact ev_ireturn (pc := 18) rfl rfl (by cases h0; rfl) dJ0_isLatin1_aae02_18
theorem dJ3_checkIndex_8e157_0 : decode cJ3_checkIndex_8e157 0 = .ok (.iload_n 0, 1) := by decide +kernel
theorem dJ3_checkIndex_8e157_1 : decode cJ3_checkIndex_8e157 1 = .ok (.ifCond .lt 8, 3) := by decide +kernel
theorem dJ3_checkIndex_8e157_4 : decode cJ3_checkIndex_8e157 4 = .ok (.iload_n 0, 1) := by decide +kernel
theorem dJ3_checkIndex_8e157_5 : decode cJ3_checkIndex_8e157 5 = .ok (.iload_n 1, 1) := by decide +kernel
theorem dJ3_checkIndex_8e157_6 : decode cJ3_checkIndex_8e157 6 = .ok (.if_icmp .lt 10, 3) := by decide +kernel
theorem dJ3_checkIndex_8e157_9 : decode cJ3_checkIndex_8e157 9 = .ok (.aload_n 2, 1) := by decide +kernel
theorem dJ3_checkIndex_8e157_10 : decode cJ3_checkIndex_8e157 10 = .ok (.iload_n 0, 1) := by decide +kernel
theorem dJ3_checkIndex_8e157_11 : decode cJ3_checkIndex_8e157 11 = .ok (.iload_n 1, 1) := by decide +kernel
theorem dJ3_checkIndex_8e157_12 : decode cJ3_checkIndex_8e157 12 = .ok (.invokestatic 95, 3) := by decide +kernel
theorem dJ3_checkIndex_8e157_15 : decode cJ3_checkIndex_8e157 15 = .ok (.athrow, 1) := by decide +kernel
theorem dJ3_checkIndex_8e157_16 : decode cJ3_checkIndex_8e157 16 = .ok (.iload_n 0, 1) := by decide +kernel
theorem dJ3_checkIndex_8e157_17 : decode cJ3_checkIndex_8e157 17 = .ok (.ireturn, 1) := by decide +kernel
def f_J3_checkIndex_8e157_9 (F : Nat) (l0 : Int32) (l1 : Int32) (S : gk_S) : Option (Int32 × gk_S) := none
theorem e_J3_checkIndex_8e157_9 {X : gk_X} {F : Nat} {l0 : Int32} {l1 : Int32} {S : gk_S} {r : (Int32 × gk_S)} (h0 : f_J3_checkIndex_8e157_9 F l0 l1 S = some r) : EvW X m_J3_checkIndex_8e157 1 0 0 9 [some (.int l0), some (.int l1), some (.retAddr 4)] [] S (qRI r) := by
  unfold f_J3_checkIndex_8e157_9 at h0
  refine ev_aload_n (pc := 9) (i := 2) rfl rfl rfl dJ3_checkIndex_8e157_9 ?_
  refine ev_iload_n (pc := 10) (i := 0) rfl rfl dJ3_checkIndex_8e157_10 ?_
  refine ev_iload_n (pc := 11) (i := 1) rfl rfl dJ3_checkIndex_8e157_11 ?_
  cases h0
def f_J3_checkIndex_8e157 (F : Nat) (S : gk_S) (p0 : Int32) (p1 : Int32) : Option (Int32 × gk_S) := if p0 < (0 : Int32) then (f_J3_checkIndex_8e157_9 F p0 p1 S) else if p0 < p1 then (some (p0, S)) else f_J3_checkIndex_8e157_9 F p0 p1 S
theorem e_J3_checkIndex_8e157 {X : gk_X} {F : Nat} {S : gk_S} {p0 : Int32} {p1 : Int32} {r : (Int32 × gk_S)} (h0 : f_J3_checkIndex_8e157 F S p0 p1 = some r) : EvM X m_J3_checkIndex_8e157 1 0 0 [.int p0, .int p1, .retAddr 4] S (qRI r) := by
  unfold f_J3_checkIndex_8e157 at h0
  refine ev_method (by decide +kernel) rfl rfl (Nat.le_of_ble_eq_true rfl) ?_
  show EvW X m_J3_checkIndex_8e157 1 0 0 0 [some (.int p0), some (.int p1), some (.retAddr 4)] [] S _
  refine ev_iload_n (pc := 0) (i := 0) rfl rfl dJ3_checkIndex_8e157_0 ?_
  refine ev_if_lt (pc := 1) (tgt := 9) (by decide) dJ3_checkIndex_8e157_1 (fun c1 => ?_) (fun c1 => ?_)
  · replace h0 := qi_t h0 c1
    exact ev_weak (qL_s (qL_s (qL_s qL_nil))) (e_J3_checkIndex_8e157_9 h0)
  · replace h0 := qi_f h0 c1
    refine ev_iload_n (pc := 4) (i := 0) rfl rfl dJ3_checkIndex_8e157_4 ?_
    refine ev_iload_n (pc := 5) (i := 1) rfl rfl dJ3_checkIndex_8e157_5 ?_
    refine ev_ic_lt (pc := 6) (tgt := 16) (by decide) dJ3_checkIndex_8e157_6 (fun c3 => ?_) (fun c3 => ?_)
    · replace h0 := qi_t h0 c3
      refine ev_iload_n (pc := 16) (i := 0) rfl rfl dJ3_checkIndex_8e157_16 ?_
      exact ev_ireturn (pc := 17) rfl rfl (by cases h0; rfl) dJ3_checkIndex_8e157_17
    · replace h0 := qi_f h0 c3
      exact ev_weak (qL_s (qL_s (qL_s qL_nil))) (e_J3_checkIndex_8e157_9 h0)
theorem dJ0_checkIndex_df160_0 : decode cJ0_checkIndex_df160 0 = .ok (.iload_n 0, 1) := by decide +kernel
theorem dJ0_checkIndex_df160_1 : decode cJ0_checkIndex_df160 1 = .ok (.iload_n 1, 1) := by decide +kernel
theorem dJ0_checkIndex_df160_2 : decode cJ0_checkIndex_df160 2 = .ok (.getstatic 1053, 3) := by decide +kernel
theorem dJ0_checkIndex_df160_5 : decode cJ0_checkIndex_df160 5 = .ok (.invokestatic 1059, 3) := by decide +kernel
theorem dJ0_checkIndex_df160_8 : decode cJ0_checkIndex_df160 8 = .ok (.pop, 1) := by decide +kernel
theorem dJ0_checkIndex_df160_9 : decode cJ0_checkIndex_df160 9 = .ok (.return_, 1) := by decide +kernel
def f_J0_checkIndex_df160 (F : Nat) (S : gk_S) (p0 : Int32) (p1 : Int32) : Option (Unit × gk_S) := qc (f_J3_checkIndex_8e157 F S p0 p1) fun x1 S2 => some ((), S2)
theorem e_J0_checkIndex_df160 {X : gk_X} {F : Nat} {S : gk_S} {p0 : Int32} {p1 : Int32} {r : (Unit × gk_S)} (h0 : f_J0_checkIndex_df160 F S p0 p1 = some r) : EvM X m_J0_checkIndex_df160 2 0 0 [.int p0, .int p1] S (qRU r) := by
  unfold f_J0_checkIndex_df160 at h0
  refine ev_method (by decide +kernel) rfl rfl (Nat.le_of_ble_eq_true rfl) ?_
  show EvW X m_J0_checkIndex_df160 2 0 0 0 [some (.int p0), some (.int p1)] [] S _
  refine ev_iload_n (pc := 0) (i := 0) rfl rfl dJ0_checkIndex_df160_0 ?_
  refine ev_iload_n (pc := 1) (i := 1) rfl rfl dJ0_checkIndex_df160_1 ?_
  refine ev_getsF (pc := 2) gw_531 dJ0_checkIndex_df160_2 ?_
  obtain ⟨x1, S2, e3, h4⟩ := qc_el h0; clear h0
  refine xv_callS (pc := 5) (st := []) (as := [.int p0, .int p1, .retAddr 4]) (v := (some (.int x1))) (S' := S2) ok_J3_checkIndex_8e157 (e_J3_checkIndex_8e157 e3) (by decide) rfl (Nat.le_of_ble_eq_true rfl) rfl gw_533 dJ0_checkIndex_df160_5 ?_
  refine ev_pop (pc := 8) (.inl ⟨_, rfl⟩) dJ0_checkIndex_df160_8 ?_
  exact ev_return (pc := 9) rfl (by cases h4; rfl) dJ0_checkIndex_df160_9
theorem dJ1_charAt_3b067_0 : decode cJ1_charAt_3b067 0 = .ok (.iload_n 1, 1) := by decide +kernel
theorem dJ1_charAt_3b067_1 : decode cJ1_charAt_3b067 1 = .ok (.aload_n 0, 1) := by decide +kernel
theorem dJ1_charAt_3b067_2 : decode cJ1_charAt_3b067 2 = .ok (.arraylength, 1) := by decide +kernel
theorem dJ1_charAt_3b067_3 : decode cJ1_charAt_3b067 3 = .ok (.invokestatic 9, 3) := by decide +kernel
theorem dJ1_charAt_3b067_6 : decode cJ1_charAt_3b067 6 = .ok (.aload_n 0, 1) := by decide +kernel
theorem dJ1_charAt_3b067_7 : decode cJ1_charAt_3b067 7 = .ok (.iload_n 1, 1) := by decide +kernel
theorem dJ1_charAt_3b067_8 : decode cJ1_charAt_3b067 8 = .ok (.baload, 1) := by decide +kernel
theorem dJ1_charAt_3b067_9 : decode cJ1_charAt_3b067 9 = .ok (.sipush 255, 3) := by decide +kernel
theorem dJ1_charAt_3b067_12 : decode cJ1_charAt_3b067 12 = .ok (.iand, 1) := by decide +kernel
theorem dJ1_charAt_3b067_13 : decode cJ1_charAt_3b067 13 = .ok (.i2c, 1) := by decide +kernel
theorem dJ1_charAt_3b067_14 : decode cJ1_charAt_3b067 14 = .ok (.ireturn, 1) := by decide +kernel
def f_J1_charAt_3b067 (F : Nat) (S : gk_S) (p0 : Nat) (p1 : Int32) : Option (Int32 × gk_S) := qk (ltb p0 34) <| qc (f_J0_checkIndex_df160 F S p1 (Int32.ofNat (gk_s p0).2.2.2.length)) fun x2 S3 => qk (inb p1 ((gk_s p0).2.2.2.length)) <| qv (((((((gk_s p0).2.2.2.getD (p1 : Int32).toNatClampNeg 0) &&& 255) : Int32).toUInt32 % 65536).toInt32)) fun x8 => qk (chb x8) <| some (x8, S3)
theorem e_J1_charAt_3b067 {X : gk_X} {F : Nat} {S : gk_S} {p0 : Nat} {p1 : Int32} {r : (Int32 × gk_S)} (h0 : f_J1_charAt_3b067 F S p0 p1 = some r) : EvM X m_J1_charAt_3b067 3 0 0 [.retAddr (60 + p0), .int p1] S (qRI r) := by
  unfold f_J1_charAt_3b067 at h0
  obtain ⟨g1, h1⟩ := qk_el h0; clear h0; rename _ => h0
  refine ev_method (by decide +kernel) rfl (by simp [gk_okv, gk_isR]; have := (ltb_el g1); omega) (Nat.le_of_ble_eq_true rfl) ?_
  show EvW X m_J1_charAt_3b067 3 0 0 0 [some (.retAddr (60 + p0)), some (.int p1)] [] S _
  refine ev_iload_n (pc := 0) (i := 1) rfl rfl dJ1_charAt_3b067_0 ?_
  refine ev_aload_n (pc := 1) (i := 0) rfl rfl (by simp [gk_isR]; have := (ltb_el g1); omega) dJ1_charAt_3b067_1 ?_
  refine ev_sbln (pc := 2) (i := p0) (ltb_el g1) dJ1_charAt_3b067_2 ?_
  obtain ⟨x2, S3, e4, h5⟩ := qc_el h0; clear h0
  refine xv_callS (pc := 3) (st := []) (as := [.int p1, .int (Int32.ofNat (gk_s p0).2.2.2.length)]) (v := none) (S' := S3) ok_J0_checkIndex_df160 (e_J0_checkIndex_df160 e4) (by decide) rfl (Nat.le_of_ble_eq_true rfl) rfl gw_528 dJ1_charAt_3b067_3 ?_
  refine ev_aload_n (pc := 6) (i := 0) rfl rfl (by simp [gk_isR]; have := (ltb_el g1); omega) dJ1_charAt_3b067_6 ?_
  refine ev_iload_n (pc := 7) (i := 1) rfl rfl dJ1_charAt_3b067_7 ?_
  obtain ⟨g6, h7⟩ := qk_el h5; clear h5
  refine ev_sbal (pc := 8) (i := p0) (ltb_el g1) (inb_el g6) dJ1_charAt_3b067_8 ?_
  refine ev_sipush (pc := 9) (v := 255) (by decide) dJ1_charAt_3b067_9 ?_
  refine ev_iand (pc := 12)  dJ1_charAt_3b067_12 ?_
  refine ev_i2c (pc := 13)  dJ1_charAt_3b067_13 ?_
  obtain ⟨x8, e9, h10⟩ := qv_el h7; clear h7
  refine xv_top e9 ?_
  obtain ⟨g11, h12⟩ := qk_el h10; clear h10
  exact ev_ireturn (pc := 14) rfl (chb_nar g11) (by cases h12; rfl) dJ1_charAt_3b067_14
theorem dJ0_charAt_5068e_0 : decode cJ0_charAt_5068e 0 = .ok (.aload_n 0, 1) := by decide +kernel
theorem dJ0_charAt_5068e_1 : decode cJ0_charAt_5068e 1 = .ok (.invokevirtual 492, 3) := by decide +kernel
theorem dJ0_charAt_5068e_4 : decode cJ0_charAt_5068e 4 = .ok (.ifCond .eq 12, 3) := by decide +kernel
theorem dJ0_charAt_5068e_7 : decode cJ0_charAt_5068e 7 = .ok (.aload_n 0, 1) := by decide +kernel
theorem dJ0_charAt_5068e_8 : decode cJ0_charAt_5068e 8 = .ok (.getfield 9, 3) := by decide +kernel
theorem dJ0_charAt_5068e_11 : decode cJ0_charAt_5068e 11 = .ok (.iload_n 1, 1) := by decide +kernel
theorem dJ0_charAt_5068e_12 : decode cJ0_charAt_5068e 12 = .ok (.invokestatic 495, 3) := by decide +kernel
theorem dJ0_charAt_5068e_15 : decode cJ0_charAt_5068e 15 = .ok (.ireturn, 1) := by decide +kernel
theorem dJ0_charAt_5068e_16 : decode cJ0_charAt_5068e 16 = .ok (.aload_n 0, 1) := by decide +kernel
theorem dJ0_charAt_5068e_17 : decode cJ0_charAt_5068e 17 = .ok (.getfield 9, 3) := by decide +kernel
theorem dJ0_charAt_5068e_20 : decode cJ0_charAt_5068e 20 = .ok (.iload_n 1, 1) := by decide +kernel
theorem dJ0_charAt_5068e_21 : decode cJ0_charAt_5068e 21 = .ok (.invokestatic 498, 3) := by decide +kernel
theorem dJ0_charAt_5068e_24 : decode cJ0_charAt_5068e 24 = .ok (.ireturn, 1) := by decide +kernel
def f_J0_charAt_5068e (F : Nat) (S : gk_S) (a : Nat) (p0 : Int32) : Option (Int32 × gk_S) := qk (ltb a 34) <| qc (f_J0_isLatin1_aae02 F S a) fun x2 S3 => if x2 = (0 : Int32) then (none) else qc (f_J1_charAt_3b067 F S3 a p0) fun x8 S9 => qk (chb x8) <| some (x8, S9)
theorem e_J0_charAt_5068e {X : gk_X} {F : Nat} {S : gk_S} {a : Nat} {p0 : Int32} {r : (Int32 × gk_S)} (h0 : f_J0_charAt_5068e F S a p0 = some r) : EvM X m_J0_charAt_5068e 4 0 0 [.retAddr (10 + a), .int p0] S (qRI r) := by
  unfold f_J0_charAt_5068e at h0
  obtain ⟨g1, h1⟩ := qk_el h0; clear h0; rename _ => h0
  refine ev_method (by decide +kernel) rfl (by simp [gk_okv, gk_isR]; have := (ltb_el g1); omega) (Nat.le_of_ble_eq_true rfl) ?_
  show EvW X m_J0_charAt_5068e 4 0 0 0 [some (.retAddr (10 + a)), some (.int p0)] [] S _
  refine ev_aload_n (pc := 0) (i := 0) rfl rfl (by simp [gk_isR]; have := (ltb_el g1); omega) dJ0_charAt_5068e_0 ?_
  obtain ⟨x2, S3, e4, h5⟩ := qc_el h0; clear h0
  refine xv_callT (pc := 1) (st := []) (as := []) (v := (some (.int x2))) (S' := S3) (i9 := a) ok_J0_isLatin1_aae02 (e_J0_isLatin1_aae02 e4) (ltb_el g1) (by decide) rfl (Nat.le_of_ble_eq_true rfl) rfl gw_521 dJ0_charAt_5068e_1 ?_
  refine ev_if_eq (pc := 4) (tgt := 16) (by decide) dJ0_charAt_5068e_4 (fun c6 => ?_) (fun c6 => ?_)
  · replace h5 := qi_t h5 c6
    refine ev_aload_n (pc := 16) (i := 0) rfl rfl (by simp [gk_isR]; have := (ltb_el g1); omega) dJ0_charAt_5068e_16 ?_
    refine ev_sval (pc := 17) (i := a) (ltb_el g1) gw_1646 dJ0_charAt_5068e_17 ?_
    refine ev_iload_n (pc := 20) (i := 1) rfl rfl dJ0_charAt_5068e_20 ?_
    cases h5
  · replace h5 := qi_f h5 c6
    refine ev_aload_n (pc := 7) (i := 0) rfl rfl (by simp [gk_isR]; have := (ltb_el g1); omega) dJ0_charAt_5068e_7 ?_
    refine ev_sval (pc := 8) (i := a) (ltb_el g1) gw_1646 dJ0_charAt_5068e_8 ?_
    refine ev_iload_n (pc := 11) (i := 1) rfl rfl dJ0_charAt_5068e_11 ?_
    obtain ⟨x8, S9, e10, h11⟩ := qc_el h5; clear h5
    refine xv_callS (pc := 12) (st := []) (as := [.retAddr (60 + a), .int p0]) (v := (some (.int x8))) (S' := S9) ok_J1_charAt_3b067 (e_J1_charAt_3b067 e10) (by decide) rfl (Nat.le_of_ble_eq_true rfl) rfl gw_525 dJ0_charAt_5068e_12 ?_
    obtain ⟨g12, h13⟩ := qk_el h11; clear h11
    exact ev_ireturn (pc := 15) rfl (chb_nar g12) (by cases h13; rfl) dJ0_charAt_5068e_15
theorem dX2_addText_0 : decode cX2_addText 0 = .ok (.iconst 0, 1) := by decide +kernel
theorem dX2_addText_1 : decode cX2_addText 1 = .ok (.istore_n 2, 1) := by decide +kernel
theorem dX2_addText_2 : decode cX2_addText 2 = .ok (.iload_n 2, 1) := by decide +kernel
theorem dX2_addText_3 : decode cX2_addText 3 = .ok (.aload_n 1, 1) := by decide +kernel
theorem dX2_addText_4 : decode cX2_addText 4 = .ok (.invokevirtual 33, 3) := by decide +kernel
theorem dX2_addText_7 : decode cX2_addText 7 = .ok (.if_icmp .ge 18, 3) := by decide +kernel
theorem dX2_addText_10 : decode cX2_addText 10 = .ok (.aload_n 0, 1) := by decide +kernel
theorem dX2_addText_11 : decode cX2_addText 11 = .ok (.aload_n 1, 1) := by decide +kernel
theorem dX2_addText_12 : decode cX2_addText 12 = .ok (.iload_n 2, 1) := by decide +kernel
theorem dX2_addText_13 : decode cX2_addText 13 = .ok (.invokevirtual 39, 3) := by decide +kernel
theorem dX2_addText_16 : decode cX2_addText 16 = .ok (.invokevirtual 26, 3) := by decide +kernel
theorem dX2_addText_19 : decode cX2_addText 19 = .ok (.iinc 2 1, 3) := by decide +kernel
theorem dX2_addText_22 : decode cX2_addText 22 = .ok (.goto (-20), 3) := by decide +kernel
theorem dX2_addText_25 : decode cX2_addText 25 = .ok (.return_, 1) := by decide +kernel
def f_X2_addText_2 (F : Nat) : Nat → Nat → Nat → Int32 → gk_S → Option (Unit × gk_S)
  | 0, _, _, _, _ => none
  | n + 1, l0, l1, l2, S => qk (ltb l1 34) <| qc (f_J0_length_8abf5 F S l1) fun x4 S5 => if x4 ≤ l2 then (some ((), S5)) else qc (f_J0_charAt_5068e F S5 l1 l2) fun x10 S11 => qk (isb S11 l0 1) <| qc (f_X2_add F S11 l0 x10) fun x16 S17 => f_X2_addText_2 F n l0 l1 (l2 + 1) S17
theorem e_X2_addText_2 {X : gk_X} {F : Nat} : ∀ (n : Nat) (l0 : Nat) (l1 : Nat) (l2 : Int32) (S : gk_S) (r : (Unit × gk_S)), f_X2_addText_2 F n l0 l1 l2 S = some r → EvW X m_X2_addText 5 0 0 2 [some (.ref l0), some (.retAddr (10 + l1)), some (.int l2)] [] S (qRU r) := by
  intro n
  induction n with
  | zero => intro l0 l1 l2 S r h0; rw [f_X2_addText_2] at h0; cases h0
  | succ n ih =>
    intro l0 l1 l2 S r h0; rw [f_X2_addText_2] at h0
    refine ev_iload_n (pc := 2) (i := 2) rfl rfl dX2_addText_2 ?_
    obtain ⟨g2, h3⟩ := qk_el h0; clear h0
    refine ev_aload_n (pc := 3) (i := 1) rfl rfl (by simp [gk_isR]; have := (ltb_el g2); omega) dX2_addText_3 ?_
    obtain ⟨x4, S5, e6, h7⟩ := qc_el h3; clear h3
    refine xv_callT (pc := 4) (st := [.int l2]) (as := []) (v := (some (.int x4))) (S' := S5) (i9 := l1) ok_J0_length_8abf5 (e_J0_length_8abf5 e6) (ltb_el g2) (by decide) rfl (Nat.le_of_ble_eq_true rfl) rfl gw_721 dX2_addText_4 ?_
    refine ev_ic_ge (pc := 7) (tgt := 25) (by decide) dX2_addText_7 (fun c8 => ?_) (fun c8 => ?_)
    · replace h7 := qi_t h7 c8
      exact ev_return (pc := 25) rfl (by cases h7; rfl) dX2_addText_25
    · replace h7 := qi_f h7 c8
      refine ev_aload_n (pc := 10) (i := 0) rfl rfl rfl dX2_addText_10 ?_
      refine ev_aload_n (pc := 11) (i := 1) rfl rfl (by simp [gk_isR]; have := (ltb_el g2); omega) dX2_addText_11 ?_
      refine ev_iload_n (pc := 12) (i := 2) rfl rfl dX2_addText_12 ?_
      obtain ⟨x10, S11, e12, h13⟩ := qc_el h7; clear h7
      refine xv_callT (pc := 13) (st := [.ref l0]) (as := [.int l2]) (v := (some (.int x10))) (S' := S11) (i9 := l1) ok_J0_charAt_5068e (e_J0_charAt_5068e e12) (ltb_el g2) (by decide) rfl (Nat.le_of_ble_eq_true rfl) rfl gw_722 dX2_addText_13 ?_
      obtain ⟨g14, h15⟩ := qk_el h13; clear h13
      obtain ⟨x16, S17, e18, h19⟩ := qc_el h15; clear h15
      refine xv_callV (pc := 16) (st := []) (as := [.int x10]) (v := none) (S' := S17) ok_X2_add (e_X2_add e18) (isb_el g14) (by decide) rfl (Nat.le_of_ble_eq_true rfl) rfl gw_337 dX2_addText_16 ?_
      refine ev_iinc (pc := 19) (L' := [some (.ref l0), some (.retAddr (10 + l1)), some (.int (l2 + 1))]) (i := 2) (v := (l2 + 1)) rfl rfl (by decide) (by simp [gk_okL, gk_isR]; have := (ltb_el g2); omega) rfl dX2_addText_19 ?_
      refine ev_goto (pc := 22) (tgt := 2) (by decide) dX2_addText_22 ?_
      exact ev_weak (qL_s (qL_s (qL_s qL_nil))) (ih _ _ _ _ _ h19)
def f_X2_addText (F : Nat) (S : gk_S) (a : Nat) (p0 : Nat) : Option (Unit × gk_S) := qk (ltb p0 34) <| f_X2_addText_2 F F a p0 0 S
theorem e_X2_addText {X : gk_X} {F : Nat} {S : gk_S} {a : Nat} {p0 : Nat} {r : (Unit × gk_S)} (h0 : f_X2_addText F S a p0 = some r) : EvM X m_X2_addText 5 0 0 [.ref a, .retAddr (10 + p0)] S (qRU r) := by
  unfold f_X2_addText at h0
  obtain ⟨g1, h1⟩ := qk_el h0; clear h0; rename _ => h0
  refine ev_method (by decide +kernel) rfl (by simp [gk_okv, gk_isR]; have := (ltb_el g1); omega) (Nat.le_of_ble_eq_true rfl) ?_
  show EvW X m_X2_addText 5 0 0 0 [some (.ref a), some (.retAddr (10 + p0)), none] [] S _
  refine ev_iconst (pc := 0) (v := 0) (by decide) dX2_addText_0 ?_
  refine ev_istore_n (pc := 1) (L' := [some (.ref a), some (.retAddr (10 + p0)), some (.int 0)]) (i := 2) rfl (by decide) (by simp [gk_okL, gk_isR]; have := (ltb_el g1); omega) rfl dX2_addText_1 ?_
  exact ev_weak (qL_s (qL_s (qL_s qL_nil))) (e_X2_addText_2 F _ _ _ _ _ h0)
theorem dX10_sum_0 : decode cX10_sum 0 = .ok (.iload_n 3, 1) := by decide +kernel
theorem dX10_sum_1 : decode cX10_sum 1 = .ok (.istore 4, 2) := by decide +kernel
theorem dX10_sum_3 : decode cX10_sum 3 = .ok (.iload_n 1, 1) := by decide +kernel
theorem dX10_sum_4 : decode cX10_sum 4 = .ok (.istore 5, 2) := by decide +kernel
theorem dX10_sum_6 : decode cX10_sum 6 = .ok (.iload 5, 2) := by decide +kernel
theorem dX10_sum_8 : decode cX10_sum 8 = .ok (.iload_n 2, 1) := by decide +kernel
theorem dX10_sum_9 : decode cX10_sum 9 = .ok (.if_icmp .ge 45, 3) := by decide +kernel
theorem dX10_sum_12 : decode cX10_sum 12 = .ok (.iload 4, 2) := by decide +kernel
theorem dX10_sum_14 : decode cX10_sum 14 = .ok (.aload_n 0, 1) := by decide +kernel
theorem dX10_sum_15 : decode cX10_sum 15 = .ok (.iload 5, 2) := by decide +kernel
theorem dX10_sum_17 : decode cX10_sum 17 = .ok (.invokevirtual 17, 3) := by decide +kernel
theorem dX10_sum_20 : decode cX10_sum 20 = .ok (.sipush 256, 3) := by decide +kernel
theorem dX10_sum_23 : decode cX10_sum 23 = .ok (.imul, 1) := by decide +kernel
theorem dX10_sum_24 : decode cX10_sum 24 = .ok (.iload 5, 2) := by decide +kernel
theorem dX10_sum_26 : decode cX10_sum 26 = .ok (.iconst 1, 1) := by decide +kernel
theorem dX10_sum_27 : decode cX10_sum 27 = .ok (.iadd, 1) := by decide +kernel
theorem dX10_sum_28 : decode cX10_sum 28 = .ok (.iload_n 2, 1) := by decide +kernel
theorem dX10_sum_29 : decode cX10_sum 29 = .ok (.if_icmp .ge 14, 3) := by decide +kernel
theorem dX10_sum_32 : decode cX10_sum 32 = .ok (.aload_n 0, 1) := by decide +kernel
theorem dX10_sum_33 : decode cX10_sum 33 = .ok (.iload 5, 2) := by decide +kernel
theorem dX10_sum_35 : decode cX10_sum 35 = .ok (.iconst 1, 1) := by decide +kernel
theorem dX10_sum_36 : decode cX10_sum 36 = .ok (.iadd, 1) := by decide +kernel
theorem dX10_sum_37 : decode cX10_sum 37 = .ok (.invokevirtual 17, 3) := by decide +kernel
theorem dX10_sum_40 : decode cX10_sum 40 = .ok (.goto 4, 3) := by decide +kernel
theorem dX10_sum_43 : decode cX10_sum 43 = .ok (.iconst 0, 1) := by decide +kernel
theorem dX10_sum_44 : decode cX10_sum 44 = .ok (.iadd, 1) := by decide +kernel
theorem dX10_sum_45 : decode cX10_sum 45 = .ok (.iadd, 1) := by decide +kernel
theorem dX10_sum_46 : decode cX10_sum 46 = .ok (.istore 4, 2) := by decide +kernel
theorem dX10_sum_48 : decode cX10_sum 48 = .ok (.iinc 5 2, 3) := by decide +kernel
theorem dX10_sum_51 : decode cX10_sum 51 = .ok (.goto (-45), 3) := by decide +kernel
theorem dX10_sum_54 : decode cX10_sum 54 = .ok (.iload 4, 2) := by decide +kernel
theorem dX10_sum_56 : decode cX10_sum 56 = .ok (.ldc 35, 2) := by decide +kernel
theorem dX10_sum_58 : decode cX10_sum 58 = .ok (.iand, 1) := by decide +kernel
theorem dX10_sum_59 : decode cX10_sum 59 = .ok (.iload 4, 2) := by decide +kernel
theorem dX10_sum_61 : decode cX10_sum 61 = .ok (.bipush 16, 2) := by decide +kernel
theorem dX10_sum_63 : decode cX10_sum 63 = .ok (.iushr, 1) := by decide +kernel
theorem dX10_sum_64 : decode cX10_sum 64 = .ok (.iadd, 1) := by decide +kernel
theorem dX10_sum_65 : decode cX10_sum 65 = .ok (.istore 5, 2) := by decide +kernel
theorem dX10_sum_67 : decode cX10_sum 67 = .ok (.iload 5, 2) := by decide +kernel
theorem dX10_sum_69 : decode cX10_sum 69 = .ok (.ldc 35, 2) := by decide +kernel
theorem dX10_sum_71 : decode cX10_sum 71 = .ok (.iand, 1) := by decide +kernel
theorem dX10_sum_72 : decode cX10_sum 72 = .ok (.iload 5, 2) := by decide +kernel
theorem dX10_sum_74 : decode cX10_sum 74 = .ok (.bipush 16, 2) := by decide +kernel
theorem dX10_sum_76 : decode cX10_sum 76 = .ok (.iushr, 1) := by decide +kernel
theorem dX10_sum_77 : decode cX10_sum 77 = .ok (.iadd, 1) := by decide +kernel
theorem dX10_sum_78 : decode cX10_sum 78 = .ok (.ireturn, 1) := by decide +kernel
def f_X10_sum_6 (F : Nat) : Nat → Nat → Int32 → Int32 → Int32 → gk_S → Option (Int32 × gk_S)
  | 0, _, _, _, _, _ => none
  | n + 1, l0, l2, l4, l5, S => if l2 ≤ l5 then (qv ((((l4 : Int32).toUInt32 >>> ((16 : Int32).toUInt32 &&& Int32.toUInt32 31)).toInt32)) fun x3 => qv ((((((l4 &&& 65535) + x3) : Int32).toUInt32 >>> ((16 : Int32).toUInt32 &&& Int32.toUInt32 31)).toInt32)) fun x6 => some (((((l4 &&& 65535) + x3) &&& 65535) + x6), S)) else qk (isb S l0 1) <| qc (f_X2_at F S l0 l5) fun x11 S12 => if l2 ≤ (l5 + 1) then (f_X10_sum_6 F n l0 l2 (l4 + ((x11 * 256) + 0)) (l5 + 2) S12) else qk (isb S12 l0 1) <| qc (f_X2_at F S12 l0 (l5 + 1)) fun x19 S20 => qv ((l4 + ((x11 * 256) + x19))) fun x23 => f_X10_sum_6 F n l0 l2 x23 (l5 + 2) S20
theorem e_X10_sum_6 {X : gk_X} {F : Nat} : ∀ (n : Nat) (l0 : Nat) (l2 : Int32) (l4 : Int32) (l5 : Int32) (S : gk_S) (r : (Int32 × gk_S)), f_X10_sum_6 F n l0 l2 l4 l5 S = some r → EvW X m_X10_sum 2 0 0 6 [some (.ref l0), none, some (.int l2), none, some (.int l4), some (.int l5)] [] S (qRI r) := by
  intro n
  induction n with
  | zero => intro l0 l2 l4 l5 S r h0; rw [f_X10_sum_6] at h0; cases h0
  | succ n ih =>
    intro l0 l2 l4 l5 S r h0; rw [f_X10_sum_6] at h0
    refine ev_iload (pc := 6) (i := 5) rfl dX10_sum_6 ?_
    refine ev_iload_n (pc := 8) (i := 2) rfl rfl dX10_sum_8 ?_
    refine ev_ic_ge (pc := 9) (tgt := 54) (by decide) dX10_sum_9 (fun c1 => ?_) (fun c1 => ?_)
    · replace h0 := qi_t h0 c1
      refine ev_iload (pc := 54) (i := 4) rfl dX10_sum_54 ?_
      refine ev_ldc (pc := 56) (v := 65535) gw_1038 dX10_sum_56 ?_
      refine ev_iand (pc := 58)  dX10_sum_58 ?_
      refine ev_iload (pc := 59) (i := 4) rfl dX10_sum_59 ?_
      refine ev_bipush (pc := 61) (v := 16) (by decide) dX10_sum_61 ?_
      refine ev_iushr (pc := 63)  dX10_sum_63 ?_
      obtain ⟨x3, e4, h5⟩ := qv_el h0; clear h0
      refine xv_top e4 ?_
      refine ev_iadd (pc := 64)  dX10_sum_64 ?_
      refine ev_istore (pc := 65) (L' := [some (.ref l0), none, some (.int l2), none, some (.int l4), some (.int ((l4 &&& 65535) + x3))]) (i := 5) (by decide) rfl rfl dX10_sum_65 ?_
      refine ev_iload (pc := 67) (i := 5) rfl dX10_sum_67 ?_
      refine ev_ldc (pc := 69) (v := 65535) gw_1038 dX10_sum_69 ?_
      refine ev_iand (pc := 71)  dX10_sum_71 ?_
      refine ev_iload (pc := 72) (i := 5) rfl dX10_sum_72 ?_
      refine ev_bipush (pc := 74) (v := 16) (by decide) dX10_sum_74 ?_
      refine ev_iushr (pc := 76)  dX10_sum_76 ?_
      obtain ⟨x6, e7, h8⟩ := qv_el h5; clear h5
      refine xv_top e7 ?_
      refine ev_iadd (pc := 77)  dX10_sum_77 ?_
      exact ev_ireturn (pc := 78) rfl rfl (by cases h8; rfl) dX10_sum_78
    · replace h0 := qi_f h0 c1
      refine ev_iload (pc := 12) (i := 4) rfl dX10_sum_12 ?_
      refine ev_aload_n (pc := 14) (i := 0) rfl rfl rfl dX10_sum_14 ?_
      refine ev_iload (pc := 15) (i := 5) rfl dX10_sum_15 ?_
      obtain ⟨g9, h10⟩ := qk_el h0; clear h0
      obtain ⟨x11, S12, e13, h14⟩ := qc_el h10; clear h10
      refine xv_callV (pc := 17) (st := [.int l4]) (as := [.int l5]) (v := (some (.int x11))) (S' := S12) ok_X2_at (e_X2_at e13) (isb_el g9) (by decide) rfl (Nat.le_of_ble_eq_true rfl) rfl gw_1023 dX10_sum_17 ?_
      refine ev_sipush (pc := 20) (v := 256) (by decide) dX10_sum_20 ?_
      refine ev_imul (pc := 23)  dX10_sum_23 ?_
      refine ev_iload (pc := 24) (i := 5) rfl dX10_sum_24 ?_
      refine ev_iconst (pc := 26) (v := 1) (by decide) dX10_sum_26 ?_
      refine ev_iadd (pc := 27)  dX10_sum_27 ?_
      refine ev_iload_n (pc := 28) (i := 2) rfl rfl dX10_sum_28 ?_
      refine ev_ic_ge (pc := 29) (tgt := 43) (by decide) dX10_sum_29 (fun c15 => ?_) (fun c15 => ?_)
      · replace h14 := qi_t h14 c15
        refine ev_iconst (pc := 43) (v := 0) (by decide) dX10_sum_43 ?_
        refine ev_iadd (pc := 44)  dX10_sum_44 ?_
        refine ev_iadd (pc := 45)  dX10_sum_45 ?_
        refine ev_istore (pc := 46) (L' := [some (.ref l0), none, some (.int l2), none, some (.int (l4 + ((x11 * 256) + 0))), some (.int l5)]) (i := 4) (by decide) rfl rfl dX10_sum_46 ?_
        refine ev_iinc (pc := 48) (L' := [some (.ref l0), none, some (.int l2), none, some (.int (l4 + ((x11 * 256) + 0))), some (.int (l5 + 2))]) (i := 5) (v := (l5 + 2)) rfl rfl (by decide) rfl rfl dX10_sum_48 ?_
        refine ev_goto (pc := 51) (tgt := 6) (by decide) dX10_sum_51 ?_
        exact ev_weak (qL_s (qL_n (qL_s (qL_n (qL_s (qL_s qL_nil)))))) (ih _ _ _ _ _ _ h14)
      · replace h14 := qi_f h14 c15
        refine ev_aload_n (pc := 32) (i := 0) rfl rfl rfl dX10_sum_32 ?_
        refine ev_iload (pc := 33) (i := 5) rfl dX10_sum_33 ?_
        refine ev_iconst (pc := 35) (v := 1) (by decide) dX10_sum_35 ?_
        refine ev_iadd (pc := 36)  dX10_sum_36 ?_
        obtain ⟨g17, h18⟩ := qk_el h14; clear h14
        obtain ⟨x19, S20, e21, h22⟩ := qc_el h18; clear h18
        refine xv_callV (pc := 37) (st := [.int (x11 * 256), .int l4]) (as := [.int (l5 + 1)]) (v := (some (.int x19))) (S' := S20) ok_X2_at (e_X2_at e21) (isb_el g17) (by decide) rfl (Nat.le_of_ble_eq_true rfl) rfl gw_1023 dX10_sum_37 ?_
        refine ev_goto (pc := 40) (tgt := 44) (by decide) dX10_sum_40 ?_
        refine ev_iadd (pc := 44)  dX10_sum_44 ?_
        refine ev_iadd (pc := 45)  dX10_sum_45 ?_
        obtain ⟨x23, e24, h25⟩ := qv_el h22; clear h22
        refine xv_top e24 ?_
        refine ev_istore (pc := 46) (L' := [some (.ref l0), none, some (.int l2), none, some (.int x23), some (.int l5)]) (i := 4) (by decide) rfl rfl dX10_sum_46 ?_
        refine ev_iinc (pc := 48) (L' := [some (.ref l0), none, some (.int l2), none, some (.int x23), some (.int (l5 + 2))]) (i := 5) (v := (l5 + 2)) rfl rfl (by decide) rfl rfl dX10_sum_48 ?_
        refine ev_goto (pc := 51) (tgt := 6) (by decide) dX10_sum_51 ?_
        exact ev_weak (qL_s (qL_n (qL_s (qL_n (qL_s (qL_s qL_nil)))))) (ih _ _ _ _ _ _ h25)
def f_X10_sum (F : Nat) (S : gk_S) (p0 : Nat) (p1 : Int32) (p2 : Int32) (p3 : Int32) : Option (Int32 × gk_S) := f_X10_sum_6 F F p0 p2 p3 p1 S
theorem e_X10_sum {X : gk_X} {F : Nat} {S : gk_S} {p0 : Nat} {p1 : Int32} {p2 : Int32} {p3 : Int32} {r : (Int32 × gk_S)} (h0 : f_X10_sum F S p0 p1 p2 p3 = some r) : EvM X m_X10_sum 2 0 0 [.ref p0, .int p1, .int p2, .int p3] S (qRI r) := by
  unfold f_X10_sum at h0
  refine ev_method (by decide +kernel) rfl rfl (Nat.le_of_ble_eq_true rfl) ?_
  show EvW X m_X10_sum 2 0 0 0 [some (.ref p0), some (.int p1), some (.int p2), some (.int p3), none, none] [] S _
  refine ev_iload_n (pc := 0) (i := 3) rfl rfl dX10_sum_0 ?_
  refine ev_istore (pc := 1) (L' := [some (.ref p0), some (.int p1), some (.int p2), some (.int p3), some (.int p3), none]) (i := 4) (by decide) rfl rfl dX10_sum_1 ?_
  refine ev_iload_n (pc := 3) (i := 1) rfl rfl dX10_sum_3 ?_
  refine ev_istore (pc := 4) (L' := [some (.ref p0), some (.int p1), some (.int p2), some (.int p3), some (.int p3), some (.int p1)]) (i := 5) (by decide) rfl rfl dX10_sum_4 ?_
  exact ev_weak (qL_s (qL_n (qL_s (qL_n (qL_s (qL_s qL_nil)))))) (e_X10_sum_6 F _ _ _ _ _ _ h0)
theorem dX4_signOf_0 : decode cX4_signOf 0 = .ok (.iload_n 0, 1) := by decide +kernel
theorem dX4_signOf_1 : decode cX4_signOf 1 = .ok (.iconst 4, 1) := by decide +kernel
theorem dX4_signOf_2 : decode cX4_signOf 2 = .ok (.iand, 1) := by decide +kernel
theorem dX4_signOf_3 : decode cX4_signOf 3 = .ok (.ifCond .eq 5, 3) := by decide +kernel
theorem dX4_signOf_6 : decode cX4_signOf 6 = .ok (.iconst 0, 1) := by decide +kernel
theorem dX4_signOf_7 : decode cX4_signOf 7 = .ok (.ireturn, 1) := by decide +kernel
theorem dX4_signOf_8 : decode cX4_signOf 8 = .ok (.iload_n 0, 1) := by decide +kernel
theorem dX4_signOf_9 : decode cX4_signOf 9 = .ok (.iconst 2, 1) := by decide +kernel
theorem dX4_signOf_10 : decode cX4_signOf 10 = .ok (.iand, 1) := by decide +kernel
theorem dX4_signOf_11 : decode cX4_signOf 11 = .ok (.ifCond .eq 16, 3) := by decide +kernel
theorem dX4_signOf_14 : decode cX4_signOf 14 = .ok (.iload_n 0, 1) := by decide +kernel
theorem dX4_signOf_15 : decode cX4_signOf 15 = .ok (.bipush 16, 2) := by decide +kernel
theorem dX4_signOf_17 : decode cX4_signOf 17 = .ok (.iand, 1) := by decide +kernel
theorem dX4_signOf_18 : decode cX4_signOf 18 = .ok (.ifCond .eq 7, 3) := by decide +kernel
theorem dX4_signOf_21 : decode cX4_signOf 21 = .ok (.iconst 2, 1) := by decide +kernel
theorem dX4_signOf_22 : decode cX4_signOf 22 = .ok (.goto 4, 3) := by decide +kernel
theorem dX4_signOf_25 : decode cX4_signOf 25 = .ok (.iconst 1, 1) := by decide +kernel
theorem dX4_signOf_26 : decode cX4_signOf 26 = .ok (.ireturn, 1) := by decide +kernel
theorem dX4_signOf_27 : decode cX4_signOf 27 = .ok (.iload_n 0, 1) := by decide +kernel
theorem dX4_signOf_28 : decode cX4_signOf 28 = .ok (.iconst 1, 1) := by decide +kernel
theorem dX4_signOf_29 : decode cX4_signOf 29 = .ok (.iand, 1) := by decide +kernel
theorem dX4_signOf_30 : decode cX4_signOf 30 = .ok (.ifCond .eq 5, 3) := by decide +kernel
theorem dX4_signOf_33 : decode cX4_signOf 33 = .ok (.iconst 3, 1) := by decide +kernel
theorem dX4_signOf_34 : decode cX4_signOf 34 = .ok (.ireturn, 1) := by decide +kernel
theorem dX4_signOf_35 : decode cX4_signOf 35 = .ok (.iload_n 0, 1) := by decide +kernel
theorem dX4_signOf_36 : decode cX4_signOf 36 = .ok (.bipush 16, 2) := by decide +kernel
theorem dX4_signOf_38 : decode cX4_signOf 38 = .ok (.iand, 1) := by decide +kernel
theorem dX4_signOf_39 : decode cX4_signOf 39 = .ok (.ifCond .eq 7, 3) := by decide +kernel
theorem dX4_signOf_42 : decode cX4_signOf 42 = .ok (.iconst 4, 1) := by decide +kernel
theorem dX4_signOf_43 : decode cX4_signOf 43 = .ok (.goto 4, 3) := by decide +kernel
theorem dX4_signOf_46 : decode cX4_signOf 46 = .ok (.iconst 5, 1) := by decide +kernel
theorem dX4_signOf_47 : decode cX4_signOf 47 = .ok (.ireturn, 1) := by decide +kernel
def f_X4_signOf (F : Nat) (S : gk_S) (p0 : Int32) : Option (Int32 × gk_S) := if (p0 &&& 4) = (0 : Int32) then (if (p0 &&& 2) = (0 : Int32) then (if (p0 &&& 1) = (0 : Int32) then (if (p0 &&& 16) = (0 : Int32) then (some (5, S)) else some (4, S)) else some (3, S)) else if (p0 &&& 16) = (0 : Int32) then (some (1, S)) else some (2, S)) else some (0, S)
theorem e_X4_signOf {X : gk_X} {F : Nat} {S : gk_S} {p0 : Int32} {r : (Int32 × gk_S)} (h0 : f_X4_signOf F S p0 = some r) : EvM X m_X4_signOf 1 0 0 [.int p0] S (qRI r) := by
  unfold f_X4_signOf at h0
  refine ev_method (by decide +kernel) rfl rfl (Nat.le_of_ble_eq_true rfl) ?_
  show EvW X m_X4_signOf 1 0 0 0 [some (.int p0)] [] S _
  refine ev_iload_n (pc := 0) (i := 0) rfl rfl dX4_signOf_0 ?_
  refine ev_iconst (pc := 1) (v := 4) (by decide) dX4_signOf_1 ?_
  refine ev_iand (pc := 2)  dX4_signOf_2 ?_
  refine ev_if_eq (pc := 3) (tgt := 8) (by decide) dX4_signOf_3 (fun c1 => ?_) (fun c1 => ?_)
  · replace h0 := qi_t h0 c1
    refine ev_iload_n (pc := 8) (i := 0) rfl rfl dX4_signOf_8 ?_
    refine ev_iconst (pc := 9) (v := 2) (by decide) dX4_signOf_9 ?_
    refine ev_iand (pc := 10)  dX4_signOf_10 ?_
    refine ev_if_eq (pc := 11) (tgt := 27) (by decide) dX4_signOf_11 (fun c3 => ?_) (fun c3 => ?_)
    · replace h0 := qi_t h0 c3
      refine ev_iload_n (pc := 27) (i := 0) rfl rfl dX4_signOf_27 ?_
      refine ev_iconst (pc := 28) (v := 1) (by decide) dX4_signOf_28 ?_
      refine ev_iand (pc := 29)  dX4_signOf_29 ?_
      refine ev_if_eq (pc := 30) (tgt := 35) (by decide) dX4_signOf_30 (fun c5 => ?_) (fun c5 => ?_)
      · replace h0 := qi_t h0 c5
        refine ev_iload_n (pc := 35) (i := 0) rfl rfl dX4_signOf_35 ?_
        refine ev_bipush (pc := 36) (v := 16) (by decide) dX4_signOf_36 ?_
        refine ev_iand (pc := 38)  dX4_signOf_38 ?_
        refine ev_if_eq (pc := 39) (tgt := 46) (by decide) dX4_signOf_39 (fun c7 => ?_) (fun c7 => ?_)
        · replace h0 := qi_t h0 c7
          refine ev_iconst (pc := 46) (v := 5) (by decide) dX4_signOf_46 ?_
          exact ev_ireturn (pc := 47) rfl rfl (by cases h0; rfl) dX4_signOf_47
        · replace h0 := qi_f h0 c7
          refine ev_iconst (pc := 42) (v := 4) (by decide) dX4_signOf_42 ?_
          refine ev_goto (pc := 43) (tgt := 47) (by decide) dX4_signOf_43 ?_
          exact ev_ireturn (pc := 47) rfl rfl (by cases h0; rfl) dX4_signOf_47
      · replace h0 := qi_f h0 c5
        refine ev_iconst (pc := 33) (v := 3) (by decide) dX4_signOf_33 ?_
        exact ev_ireturn (pc := 34) rfl rfl (by cases h0; rfl) dX4_signOf_34
    · replace h0 := qi_f h0 c3
      refine ev_iload_n (pc := 14) (i := 0) rfl rfl dX4_signOf_14 ?_
      refine ev_bipush (pc := 15) (v := 16) (by decide) dX4_signOf_15 ?_
      refine ev_iand (pc := 17)  dX4_signOf_17 ?_
      refine ev_if_eq (pc := 18) (tgt := 25) (by decide) dX4_signOf_18 (fun c9 => ?_) (fun c9 => ?_)
      · replace h0 := qi_t h0 c9
        refine ev_iconst (pc := 25) (v := 1) (by decide) dX4_signOf_25 ?_
        exact ev_ireturn (pc := 26) rfl rfl (by cases h0; rfl) dX4_signOf_26
      · replace h0 := qi_f h0 c9
        refine ev_iconst (pc := 21) (v := 2) (by decide) dX4_signOf_21 ?_
        refine ev_goto (pc := 22) (tgt := 26) (by decide) dX4_signOf_22 ?_
        exact ev_ireturn (pc := 26) rfl rfl (by cases h0; rfl) dX4_signOf_26
  · replace h0 := qi_f h0 c1
    refine ev_iconst (pc := 6) (v := 0) (by decide) dX4_signOf_6 ?_
    exact ev_ireturn (pc := 7) rfl rfl (by cases h0; rfl) dX4_signOf_7
theorem dX4_behind_0 : decode cX4_behind 0 = .ok (.iload_n 0, 1) := by decide +kernel
theorem dX4_behind_1 : decode cX4_behind 1 = .ok (.iconst 1, 1) := by decide +kernel
theorem dX4_behind_2 : decode cX4_behind 2 = .ok (.if_icmp .lt 9, 3) := by decide +kernel
theorem dX4_behind_5 : decode cX4_behind 5 = .ok (.iload_n 0, 1) := by decide +kernel
theorem dX4_behind_6 : decode cX4_behind 6 = .ok (.bipush 7, 2) := by decide +kernel
theorem dX4_behind_8 : decode cX4_behind 8 = .ok (.if_icmp .le 5, 3) := by decide +kernel
theorem dX4_behind_11 : decode cX4_behind 11 = .ok (.iconst (-1), 1) := by decide +kernel
theorem dX4_behind_12 : decode cX4_behind 12 = .ok (.ireturn, 1) := by decide +kernel
theorem dX4_behind_13 : decode cX4_behind 13 = .ok (.iload_n 0, 1) := by decide +kernel
theorem dX4_behind_14 : decode cX4_behind 14 = .ok (.iconst 4, 1) := by decide +kernel
theorem dX4_behind_15 : decode cX4_behind 15 = .ok (.if_icmp .eq 8, 3) := by decide +kernel
theorem dX4_behind_18 : decode cX4_behind 18 = .ok (.iload_n 0, 1) := by decide +kernel
theorem dX4_behind_19 : decode cX4_behind 19 = .ok (.iconst 5, 1) := by decide +kernel
theorem dX4_behind_20 : decode cX4_behind 20 = .ok (.if_icmp .ne 7, 3) := by decide +kernel
theorem dX4_behind_23 : decode cX4_behind 23 = .ok (.iload_n 3, 1) := by decide +kernel
theorem dX4_behind_24 : decode cX4_behind 24 = .ok (.goto 4, 3) := by decide +kernel
theorem dX4_behind_27 : decode cX4_behind 27 = .ok (.iconst 1, 1) := by decide +kernel
theorem dX4_behind_28 : decode cX4_behind 28 = .ok (.istore 4, 2) := by decide +kernel
theorem dX4_behind_30 : decode cX4_behind 30 = .ok (.iconst 2, 1) := by decide +kernel
theorem dX4_behind_31 : decode cX4_behind 31 = .ok (.iload_n 0, 1) := by decide +kernel
theorem dX4_behind_32 : decode cX4_behind 32 = .ok (.iconst 1, 1) := by decide +kernel
theorem dX4_behind_33 : decode cX4_behind 33 = .ok (.isub, 1) := by decide +kernel
theorem dX4_behind_34 : decode cX4_behind 34 = .ok (.imul, 1) := by decide +kernel
theorem dX4_behind_35 : decode cX4_behind 35 = .ok (.iload_n 2, 1) := by decide +kernel
theorem dX4_behind_36 : decode cX4_behind 36 = .ok (.iload 4, 2) := by decide +kernel
theorem dX4_behind_38 : decode cX4_behind 38 = .ok (.if_icmp .ne 7, 3) := by decide +kernel
theorem dX4_behind_41 : decode cX4_behind 41 = .ok (.iconst 0, 1) := by decide +kernel
theorem dX4_behind_42 : decode cX4_behind 42 = .ok (.goto 4, 3) := by decide +kernel
theorem dX4_behind_45 : decode cX4_behind 45 = .ok (.iconst 1, 1) := by decide +kernel
theorem dX4_behind_46 : decode cX4_behind 46 = .ok (.iadd, 1) := by decide +kernel
theorem dX4_behind_47 : decode cX4_behind 47 = .ok (.istore 5, 2) := by decide +kernel
theorem dX4_behind_49 : decode cX4_behind 49 = .ok (.getstatic 15, 3) := by decide +kernel
theorem dX4_behind_52 : decode cX4_behind 52 = .ok (.iload 5, 2) := by decide +kernel
theorem dX4_behind_54 : decode cX4_behind 54 = .ok (.bipush 6, 2) := by decide +kernel
theorem dX4_behind_56 : decode cX4_behind 56 = .ok (.imul, 1) := by decide +kernel
theorem dX4_behind_57 : decode cX4_behind 57 = .ok (.iload_n 1, 1) := by decide +kernel
theorem dX4_behind_58 : decode cX4_behind 58 = .ok (.invokestatic 18, 3) := by decide +kernel
theorem dX4_behind_61 : decode cX4_behind 61 = .ok (.iadd, 1) := by decide +kernel
theorem dX4_behind_62 : decode cX4_behind 62 = .ok (.iaload, 1) := by decide +kernel
theorem dX4_behind_63 : decode cX4_behind 63 = .ok (.istore 6, 2) := by decide +kernel
theorem dX4_behind_65 : decode cX4_behind 65 = .ok (.iload 6, 2) := by decide +kernel
theorem dX4_behind_67 : decode cX4_behind 67 = .ok (.ifCond .ne 7, 3) := by decide +kernel
theorem dX4_behind_70 : decode cX4_behind 70 = .ok (.iconst (-1), 1) := by decide +kernel
theorem dX4_behind_71 : decode cX4_behind 71 = .ok (.goto 5, 3) := by decide +kernel
theorem dX4_behind_74 : decode cX4_behind 74 = .ok (.iload 6, 2) := by decide +kernel
theorem dX4_behind_76 : decode cX4_behind 76 = .ok (.ireturn, 1) := by decide +kernel
def f_X4_behind_46 (F : Nat) (l1 : Int32) (s0 : Int32) (s1 : Int32) (S : gk_S) : Option (Int32 × gk_S) := qc (f_X4_signOf F S l1) fun x9 S10 => qk (inb (((s1 + s0) * 6) + x9) 84) <| qv ((gk_beh ((((s1 + s0) * 6) + x9) : Int32).toNatClampNeg)) fun x15 => if x15 = (0 : Int32) then (some ((-1), S10)) else some (x15, S10)
theorem e_X4_behind_46 {X : gk_X} {F : Nat} {l1 : Int32} {s0 : Int32} {s1 : Int32} {S : gk_S} {r : (Int32 × gk_S)} (h0 : f_X4_behind_46 F l1 s0 s1 S = some r) : EvW X m_X4_behind 2 0 0 46 [none, some (.int l1), none, none, none, none, none] [.int s0, .int s1] S (qRI r) := by
  unfold f_X4_behind_46 at h0
  refine ev_iadd (pc := 46)  dX4_behind_46 ?_
  refine ev_istore (pc := 47) (L' := [none, some (.int l1), none, none, none, some (.int (s1 + s0)), none]) (i := 5) (by decide) rfl rfl dX4_behind_47 ?_
  refine ev_getsB (pc := 49) gw_972 dX4_behind_49 ?_
  refine ev_iload (pc := 52) (i := 5) rfl dX4_behind_52 ?_
  refine ev_bipush (pc := 54) (v := 6) (by decide) dX4_behind_54 ?_
  refine ev_imul (pc := 56)  dX4_behind_56 ?_
  refine ev_iload_n (pc := 57) (i := 1) rfl rfl dX4_behind_57 ?_
  obtain ⟨x9, S10, e11, h12⟩ := qc_el h0; clear h0
  refine xv_callS (pc := 58) (st := [.int ((s1 + s0) * 6), .retAddr 2]) (as := [.int l1]) (v := (some (.int x9))) (S' := S10) ok_X4_signOf (e_X4_signOf e11) (by decide) rfl (Nat.le_of_ble_eq_true rfl) rfl gw_974 dX4_behind_58 ?_
  refine ev_iadd (pc := 61)  dX4_behind_61 ?_
  obtain ⟨g13, h14⟩ := qk_el h12; clear h12
  refine ev_caldB (pc := 62) (inb_el g13) dX4_behind_62 ?_
  obtain ⟨x15, e16, h17⟩ := qv_el h14; clear h14
  refine xv_top e16 ?_
  refine ev_istore (pc := 63) (L' := [none, some (.int l1), none, none, none, some (.int (s1 + s0)), some (.int x15)]) (i := 6) (by decide) rfl rfl dX4_behind_63 ?_
  refine ev_iload (pc := 65) (i := 6) rfl dX4_behind_65 ?_
  refine ev_if_ne (pc := 67) (tgt := 74) (by decide) dX4_behind_67 (fun c18 => ?_) (fun c18 => ?_)
  · replace h17 := qi_f h17 c18
    refine ev_iload (pc := 74) (i := 6) rfl dX4_behind_74 ?_
    exact ev_ireturn (pc := 76) rfl rfl (by cases h17; rfl) dX4_behind_76
  · replace h17 := qi_t h17 c18
    refine ev_iconst (pc := 70) (v := -1) (by decide) dX4_behind_70 ?_
    refine ev_goto (pc := 71) (tgt := 76) (by decide) dX4_behind_71 ?_
    exact ev_ireturn (pc := 76) rfl rfl (by cases h17; rfl) dX4_behind_76
def f_X4_behind_28 (F : Nat) (l0 : Int32) (l1 : Int32) (l2 : Int32) (s0 : Int32) (S : gk_S) : Option (Int32 × gk_S) := if l2 = s0 then (f_X4_behind_46 F l1 0 (2 * (l0 - 1)) S) else f_X4_behind_46 F l1 1 (2 * (l0 - 1)) S
theorem e_X4_behind_28 {X : gk_X} {F : Nat} {l0 : Int32} {l1 : Int32} {l2 : Int32} {s0 : Int32} {S : gk_S} {r : (Int32 × gk_S)} (h0 : f_X4_behind_28 F l0 l1 l2 s0 S = some r) : EvW X m_X4_behind 2 0 0 28 [some (.int l0), some (.int l1), some (.int l2), none, none, none, none] [.int s0] S (qRI r) := by
  unfold f_X4_behind_28 at h0
  refine ev_istore (pc := 28) (L' := [some (.int l0), some (.int l1), some (.int l2), none, some (.int s0), none, none]) (i := 4) (by decide) rfl rfl dX4_behind_28 ?_
  refine ev_iconst (pc := 30) (v := 2) (by decide) dX4_behind_30 ?_
  refine ev_iload_n (pc := 31) (i := 0) rfl rfl dX4_behind_31 ?_
  refine ev_iconst (pc := 32) (v := 1) (by decide) dX4_behind_32 ?_
  refine ev_isub (pc := 33)  dX4_behind_33 ?_
  refine ev_imul (pc := 34)  dX4_behind_34 ?_
  refine ev_iload_n (pc := 35) (i := 2) rfl rfl dX4_behind_35 ?_
  refine ev_iload (pc := 36) (i := 4) rfl dX4_behind_36 ?_
  refine ev_ic_ne (pc := 38) (tgt := 45) (by decide) dX4_behind_38 (fun c7 => ?_) (fun c7 => ?_)
  · replace h0 := qi_f h0 c7
    refine ev_iconst (pc := 45) (v := 1) (by decide) dX4_behind_45 ?_
    exact ev_weak (qL_n (qL_s (qL_n (qL_n (qL_n (qL_n (qL_n qL_nil))))))) (e_X4_behind_46 h0)
  · replace h0 := qi_t h0 c7
    refine ev_iconst (pc := 41) (v := 0) (by decide) dX4_behind_41 ?_
    refine ev_goto (pc := 42) (tgt := 46) (by decide) dX4_behind_42 ?_
    exact ev_weak (qL_n (qL_s (qL_n (qL_n (qL_n (qL_n (qL_n qL_nil))))))) (e_X4_behind_46 h0)
def f_X4_behind (F : Nat) (S : gk_S) (p0 : Int32) (p1 : Int32) (p2 : Int32) (p3 : Int32) : Option (Int32 × gk_S) := if p0 < (1 : Int32) then (some ((-1), S)) else if p0 ≤ (7 : Int32) then (if p0 = (4 : Int32) then (f_X4_behind_28 F p0 p1 p2 p3 S) else if p0 = (5 : Int32) then (f_X4_behind_28 F p0 p1 p2 p3 S) else f_X4_behind_28 F p0 p1 p2 1 S) else some ((-1), S)
theorem e_X4_behind {X : gk_X} {F : Nat} {S : gk_S} {p0 : Int32} {p1 : Int32} {p2 : Int32} {p3 : Int32} {r : (Int32 × gk_S)} (h0 : f_X4_behind F S p0 p1 p2 p3 = some r) : EvM X m_X4_behind 2 0 0 [.int p0, .int p1, .int p2, .int p3] S (qRI r) := by
  unfold f_X4_behind at h0
  refine ev_method (by decide +kernel) rfl rfl (Nat.le_of_ble_eq_true rfl) ?_
  show EvW X m_X4_behind 2 0 0 0 [some (.int p0), some (.int p1), some (.int p2), some (.int p3), none, none, none] [] S _
  refine ev_iload_n (pc := 0) (i := 0) rfl rfl dX4_behind_0 ?_
  refine ev_iconst (pc := 1) (v := 1) (by decide) dX4_behind_1 ?_
  refine ev_ic_lt (pc := 2) (tgt := 11) (by decide) dX4_behind_2 (fun c1 => ?_) (fun c1 => ?_)
  · replace h0 := qi_t h0 c1
    refine ev_iconst (pc := 11) (v := -1) (by decide) dX4_behind_11 ?_
    exact ev_ireturn (pc := 12) rfl rfl (by cases h0; rfl) dX4_behind_12
  · replace h0 := qi_f h0 c1
    refine ev_iload_n (pc := 5) (i := 0) rfl rfl dX4_behind_5 ?_
    refine ev_bipush (pc := 6) (v := 7) (by decide) dX4_behind_6 ?_
    refine ev_ic_le (pc := 8) (tgt := 13) (by decide) dX4_behind_8 (fun c3 => ?_) (fun c3 => ?_)
    · replace h0 := qi_t h0 c3
      refine ev_iload_n (pc := 13) (i := 0) rfl rfl dX4_behind_13 ?_
      refine ev_iconst (pc := 14) (v := 4) (by decide) dX4_behind_14 ?_
      refine ev_ic_eq (pc := 15) (tgt := 23) (by decide) dX4_behind_15 (fun c5 => ?_) (fun c5 => ?_)
      · replace h0 := qi_t h0 c5
        refine ev_iload_n (pc := 23) (i := 3) rfl rfl dX4_behind_23 ?_
        refine ev_goto (pc := 24) (tgt := 28) (by decide) dX4_behind_24 ?_
        exact ev_weak (qL_s (qL_s (qL_s (qL_n (qL_n (qL_n (qL_n qL_nil))))))) (e_X4_behind_28 h0)
      · replace h0 := qi_f h0 c5
        refine ev_iload_n (pc := 18) (i := 0) rfl rfl dX4_behind_18 ?_
        refine ev_iconst (pc := 19) (v := 5) (by decide) dX4_behind_19 ?_
        refine ev_ic_ne (pc := 20) (tgt := 27) (by decide) dX4_behind_20 (fun c20 => ?_) (fun c20 => ?_)
        · replace h0 := qi_f h0 c20
          refine ev_iconst (pc := 27) (v := 1) (by decide) dX4_behind_27 ?_
          exact ev_weak (qL_s (qL_s (qL_s (qL_n (qL_n (qL_n (qL_n qL_nil))))))) (e_X4_behind_28 h0)
        · replace h0 := qi_t h0 c20
          refine ev_iload_n (pc := 23) (i := 3) rfl rfl dX4_behind_23 ?_
          refine ev_goto (pc := 24) (tgt := 28) (by decide) dX4_behind_24 ?_
          exact ev_weak (qL_s (qL_s (qL_s (qL_n (qL_n (qL_n (qL_n qL_nil))))))) (e_X4_behind_28 h0)
    · replace h0 := qi_f h0 c3
      refine ev_iconst (pc := 11) (v := -1) (by decide) dX4_behind_11 ?_
      exact ev_ireturn (pc := 12) rfl rfl (by cases h0; rfl) dX4_behind_12
theorem dX11_checkList_0 : decode cX11_checkList 0 = .ok (.iload_n 0, 1) := by decide +kernel
theorem dX11_checkList_1 : decode cX11_checkList 1 = .ok (.ifCond .lt 8, 3) := by decide +kernel
theorem dX11_checkList_4 : decode cX11_checkList 4 = .ok (.iload_n 0, 1) := by decide +kernel
theorem dX11_checkList_5 : decode cX11_checkList 5 = .ok (.iconst 4, 1) := by decide +kernel
theorem dX11_checkList_6 : decode cX11_checkList 6 = .ok (.if_icmp .lt 13, 3) := by decide +kernel
theorem dX11_checkList_9 : decode cX11_checkList 9 = .ok (.new 249, 3) := by decide +kernel
theorem dX11_checkList_12 : decode cX11_checkList 12 = .ok (.dup, 1) := by decide +kernel
theorem dX11_checkList_13 : decode cX11_checkList 13 = .ok (.ldc 251, 2) := by decide +kernel
theorem dX11_checkList_15 : decode cX11_checkList 15 = .ok (.invokespecial 253, 3) := by decide +kernel
theorem dX11_checkList_18 : decode cX11_checkList 18 = .ok (.athrow, 1) := by decide +kernel
theorem dX11_checkList_19 : decode cX11_checkList 19 = .ok (.return_, 1) := by decide +kernel
def f_X11_checkList_9 (F : Nat)  (S : gk_S) : Option ((Unit ⊕ String) × gk_S) := some (.inr gx_I, cS S)
theorem e_X11_checkList_9 {X : gk_X} {F : Nat} {k j : Nat}  {S : gk_S} {r : ((Unit ⊕ String) × gk_S)} (hb : qb r k j) (h0 : f_X11_checkList_9 F  S = some r) : EvW X m_X11_checkList 6 k j 9 [none] [] S (qXU r) := by
  unfold f_X11_checkList_9 at h0
  cases h0
  exact ev_throwS (pc := 9) (i := 0) (by decide) rfl rfl rfl rfl gx_okI (by decide +kernel) gw_389 gw_18 rfl (by decide) (by decide) (qb_inr hb).1 (qb_inr hb).2 rfl dX11_checkList_9 dX11_checkList_12 dX11_checkList_13 dX11_checkList_15 dX11_checkList_18
def f_X11_checkList (F : Nat) (S : gk_S) (p0 : Int32) : Option ((Unit ⊕ String) × gk_S) := if p0 < (0 : Int32) then (f_X11_checkList_9 F S) else if p0 < (4 : Int32) then (some (.inl (), S)) else f_X11_checkList_9 F S
theorem e_X11_checkList {X : gk_X} {F : Nat} {k j : Nat} {S : gk_S} {p0 : Int32} {r : ((Unit ⊕ String) × gk_S)} (hb : qb r k j) (h0 : f_X11_checkList F S p0 = some r) : EvM X m_X11_checkList 6 k j [.int p0] S (qXU r) := by
  unfold f_X11_checkList at h0
  refine ev_method (by decide +kernel) rfl rfl (Nat.le_of_ble_eq_true rfl) ?_
  show EvW X m_X11_checkList 6 k j 0 [some (.int p0)] [] S _
  refine ev_iload_n (pc := 0) (i := 0) rfl rfl dX11_checkList_0 ?_
  refine ev_if_lt (pc := 1) (tgt := 9) (by decide) dX11_checkList_1 (fun c1 => ?_) (fun c1 => ?_)
  · replace h0 := qi_t h0 c1
    exact ev_weak (qL_n qL_nil) (e_X11_checkList_9 hb h0)
  · replace h0 := qi_f h0 c1
    refine ev_iload_n (pc := 4) (i := 0) rfl rfl dX11_checkList_4 ?_
    refine ev_iconst (pc := 5) (v := 4) (by decide) dX11_checkList_5 ?_
    refine ev_ic_lt (pc := 6) (tgt := 19) (by decide) dX11_checkList_6 (fun c3 => ?_) (fun c3 => ?_)
    · replace h0 := qi_t h0 c3
      cases h0
      exact ev_return (pc := 19) rfl rfl dX11_checkList_19
    · replace h0 := qi_f h0 c3
      exact ev_weak (qL_n qL_nil) (e_X11_checkList_9 hb h0)
theorem dX11_rules_0 : decode cX11_rules 0 = .ok (.iload_n 1, 1) := by decide +kernel
theorem dX11_rules_1 : decode cX11_rules 1 = .ok (.invokestatic 89, 3) := by decide +kernel
theorem dX11_rules_4 : decode cX11_rules 4 = .ok (.aload_n 0, 1) := by decide +kernel
theorem dX11_rules_5 : decode cX11_rules 5 = .ok (.getfield 23, 3) := by decide +kernel
theorem dX11_rules_8 : decode cX11_rules 8 = .ok (.iload_n 1, 1) := by decide +kernel
theorem dX11_rules_9 : decode cX11_rules 9 = .ok (.aaload, 1) := by decide +kernel
theorem dX11_rules_10 : decode cX11_rules 10 = .ok (.getfield 103, 3) := by decide +kernel
theorem dX11_rules_13 : decode cX11_rules 13 = .ok (.ireturn, 1) := by decide +kernel
def f_X11_rules (F : Nat) (S : gk_S) (a : Nat) (p0 : Int32) : Option ((Int32 ⊕ String) × gk_S) := qx (f_X11_checkList F S p0) fun x1 S2 => qk (isb S2 a 8) <| qP (gP S2 802 a) fun b9 => qk (isb S2 b9 16) <| qk (inb p0 (gL S2 b9)) <| qP (aP S2 b9 p0) fun b16 => qk (isb S2 b16 4) <| qv (gI S2 401 b16) fun x21 => some (.inl x21, S2)
theorem e_X11_rules {X : gk_X} {F : Nat} {k j : Nat} {S : gk_S} {a : Nat} {p0 : Int32} {r : ((Int32 ⊕ String) × gk_S)} (hb : qb r k j) (h0 : f_X11_rules F S a p0 = some r) : EvM X m_X11_rules 7 k j [.ref a, .int p0] S (qXI r) := by
  unfold f_X11_rules at h0
  refine ev_method (by decide +kernel) rfl rfl (Nat.le_of_ble_eq_true rfl) ?_
  show EvW X m_X11_rules 7 k j 0 [some (.ref a), some (.int p0)] [] S _
  refine ev_iload_n (pc := 0) (i := 1) rfl rfl dX11_rules_0 ?_
  rcases qx_el h0 with ⟨E5, T6, e3, z1⟩ | ⟨x1, S2, e3, h4⟩
  · subst z1
    exact xv_thrS (pc := 1) (st := []) (as := [.int p0]) ok_X11_checkList (e_X11_checkList (fun _ _ => qb_inr hb) e3) rfl rfl (by decide) (Nat.le_refl _) (Nat.le_refl _) rfl (Nat.le_of_ble_eq_true rfl) rfl gw_386 dX11_rules_1
  clear h0
  refine xv_callS (pc := 1) (st := []) (as := [.int p0]) (v := none) (S' := S2) ok_X11_checkList (e_X11_checkList (k := 0) (j := 0) qb_inl e3) (by decide) rfl (Nat.le_of_ble_eq_true rfl) rfl gw_386 dX11_rules_1 ?_
  refine ev_aload_n (pc := 4) (i := 0) rfl rfl rfl dX11_rules_4 ?_
  obtain ⟨g7, h8⟩ := qk_el h4; clear h4
  obtain ⟨b9, e10, h11⟩ := qP_el h8; clear h8
  refine xv_getP (pc := 5) fn_802 (isb_el g7) e10 gw_284 dX11_rules_5 ?_
  refine ev_iload_n (pc := 8) (i := 1) rfl rfl dX11_rules_8 ?_
  obtain ⟨g12, h13⟩ := qk_el h11; clear h11
  obtain ⟨g14, h15⟩ := qk_el h13; clear h13
  obtain ⟨b16, e17, h18⟩ := qP_el h15; clear h15
  refine yv_aald (pc := 9) (isb_el g12) (by decide) (inb_el g14) e17 dX11_rules_9 ?_
  obtain ⟨g19, h20⟩ := qk_el h18; clear h18
  obtain ⟨x21, e22, h23⟩ := qv_el h20; clear h20
  refine xv_getIv (pc := 10) fn_401 (isb_el g19) e22 gw_95 dX11_rules_10 ?_
  cases h23
  exact ev_ireturn (pc := 13) rfl rfl rfl dX11_rules_13
